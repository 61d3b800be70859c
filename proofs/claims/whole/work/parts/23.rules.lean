set_option maxRecDepth 100000 in
set_option maxHeartbeats 4000000 in
theorem rX6_begin {d : Nat} {a : Nat} {r1 : Nat} {n1 : Nat} {x2 : Int32} {r3 : Nat} {n3 : Nat} {x4 : Int32} {M : mm_M} {K : mm_M → Prop} (ha : a ∈ mm_Rds) (hr1 : mm_SH[r1]? = some (0, n1)) (hr3 : mm_SH[r3]? = some (0, n3)) (hG : mm_G M.2.2) (h : mm_CV mX6_next d [.ref a] (mm_uI (mm_uI (mm_uI (mm_uI (mm_uI (mm_uR (mm_uI (mm_uR M a 0 (some r1)) a 1 (if (nI n1) < x2 then (nI n1) else x2)) a 13 (some r3)) a 14 x4) a 2 0) a 8 0) a 9 (-1)) a 10 0) (fun m47 => K m47)) : mm_CV mX6_begin (d + 1) [.ref a, .ref r1, .int x2, .ref r3, .int x4] M K := by
  show mm_W mX6_begin (d + 1) 0 0 0 [(0, .ref a), (1, .ref r1), (2, .int x2), (3, .ref r3), (4, .int x4)] [] mm_SH M 0 0 (mm_PV K)
  refine mm_aload_n (pc := 0) (j := 0) dX6_begin_0 rfl rfl ?_
  refine mm_aload_n (pc := 1) (j := 1) dX6_begin_1 rfl rfl ?_
  refine mm_putR (pc := 2) (ci := 6) (N := 15) dX6_begin_2 fX6_9 (sh_Rd ha) (by decide +kernel) rfl ?_
  have hG := mm_G_up (a := a) (j := 0) (r := some r1) hG (mm_nf_Rd_0 ha)
  refine mm_aload_n (pc := 5) (j := 0) dX6_begin_5 rfl rfl ?_
  refine mm_iload_n (pc := 6) (j := 2) dX6_begin_6 rfl rfl ?_
  refine mm_aload_n (pc := 7) (j := 1) dX6_begin_7 rfl rfl ?_
  refine mm_alen (pc := 8) (t := 0) (N := n1) dX6_begin_8 hr1 (by decide) ?_
  refine mm_mmin (pc := 9) dX6_begin_9 kX6_18 ma_min_s ma_ini ma_min_c (Nat.le_of_ble_eq_true rfl) (Nat.le_refl 0) (Nat.le_refl 0) ?_
  refine mm_putI (pc := 12) (ci := 6) (N := 15) dX6_begin_12 fX6_24 (sh_Rd ha) (by decide +kernel) rfl rfl rfl ?_
  refine mm_aload_n (pc := 15) (j := 0) dX6_begin_15 rfl rfl ?_
  refine mm_aload_n (pc := 16) (j := 3) dX6_begin_16 rfl rfl ?_
  refine mm_putR (pc := 17) (ci := 6) (N := 15) dX6_begin_17 fX6_15 (sh_Rd ha) (by decide +kernel) rfl ?_
  have hG := mm_G_up (a := a) (j := 13) (r := some r3) hG (mm_nf_Rd_13 ha)
  refine mm_aload_n (pc := 20) (j := 0) dX6_begin_20 rfl rfl ?_
  refine mm_iload (pc := 21) (j := 4) dX6_begin_21 rfl ?_
  refine mm_putI (pc := 23) (ci := 6) (N := 15) dX6_begin_23 fX6_28 (sh_Rd ha) (by decide +kernel) rfl rfl rfl ?_
  refine mm_aload_n (pc := 26) (j := 0) dX6_begin_26 rfl rfl ?_
  refine mm_iconst (pc := 27) (x := 0) dX6_begin_27 rfl ?_
  refine mm_putI (pc := 28) (ci := 6) (N := 15) dX6_begin_28 fX6_31 (sh_Rd ha) (by decide +kernel) rfl rfl rfl ?_
  refine mm_aload_n (pc := 31) (j := 0) dX6_begin_31 rfl rfl ?_
  refine mm_iconst (pc := 32) (x := 0) dX6_begin_32 rfl ?_
  refine mm_putI (pc := 33) (ci := 6) (N := 15) dX6_begin_33 fX6_34 (sh_Rd ha) (by decide +kernel) rfl rfl rfl ?_
  refine mm_aload_n (pc := 36) (j := 0) dX6_begin_36 rfl rfl ?_
  refine mm_iconst (pc := 37) (x := (-1)) dX6_begin_37 rfl ?_
  refine mm_putI (pc := 38) (ci := 6) (N := 15) dX6_begin_38 fX6_37 (sh_Rd ha) (by decide +kernel) rfl rfl rfl ?_
  refine mm_aload_n (pc := 41) (j := 0) dX6_begin_41 rfl rfl ?_
  refine mm_iconst (pc := 42) (x := 0) dX6_begin_42 rfl ?_
  refine mm_putI (pc := 43) (ci := 6) (N := 15) dX6_begin_43 fX6_40 (sh_Rd ha) (by decide +kernel) rfl rfl rfl ?_
  refine mm_aload_n (pc := 46) (j := 0) dX6_begin_46 rfl rfl ?_
  refine mm_kVV (pc := 47) [] dX6_begin_47 kX6_43 rfl (sh_Rd ha) (Nat.le_of_ble_eq_true rfl) (Nat.le_of_ble_eq_true rfl) h (fun m47 hG h => ?_)
  exact mm_vret (pc := 50) dX6_begin_50 rfl (Nat.le_refl 0) (Nat.le_refl 0) ⟨rfl, rfl, hG, h⟩
set_option maxRecDepth 100000 in
set_option maxHeartbeats 4000000 in
theorem rX6_refuse {d : Nat} {a : Nat} {x1 : Int32} {x2 : Int32} {M : mm_M} {K : mm_M → Prop} (ha : a ∈ mm_Rds) (hG : mm_G M.2.2) (h : if (M.1 a 8) = 0 then (K (mm_uI (mm_uI M a 8 x1) a 9 x2)) else (K M)) : mm_CV mX6_refuse d [.ref a, .int x1, .int x2] M K := by
  show mm_W mX6_refuse d 0 0 0 [(0, .ref a), (1, .int x1), (2, .int x2)] [] mm_SH M 0 0 (mm_PV K)
  refine mm_aload_n (pc := 0) (j := 0) dX6_refuse_0 rfl rfl ?_
  refine mm_getI (pc := 1) (ci := 6) (N := 15) dX6_refuse_1 fX6_34 (sh_Rd ha) rfl ?_
  refine mm_if_ne (pc := 4) (tgt := 17) dX6_refuse_4 (by decide) (fun hc => ?_) (fun hc => ?_)
  · have h := mm_iff hc h
    exact mm_vret (pc := 17) dX6_refuse_17 rfl (Nat.le_refl 0) (Nat.le_refl 0) ⟨rfl, rfl, hG, h⟩
  · have h := mm_ift hc h
    refine mm_aload_n (pc := 7) (j := 0) dX6_refuse_7 rfl rfl ?_
    refine mm_iload_n (pc := 8) (j := 1) dX6_refuse_8 rfl rfl ?_
    refine mm_putI (pc := 9) (ci := 6) (N := 15) dX6_refuse_9 fX6_34 (sh_Rd ha) (by decide +kernel) rfl rfl rfl ?_
    refine mm_aload_n (pc := 12) (j := 0) dX6_refuse_12 rfl rfl ?_
    refine mm_iload_n (pc := 13) (j := 2) dX6_refuse_13 rfl rfl ?_
    refine mm_putI (pc := 14) (ci := 6) (N := 15) dX6_refuse_14 fX6_37 (sh_Rd ha) (by decide +kernel) rfl rfl rfl ?_
    exact mm_vret (pc := 17) dX6_refuse_17 rfl (Nat.le_refl 0) (Nat.le_refl 0) ⟨rfl, rfl, hG, h⟩
def jX6_next_84 (d : Nat) (a : Nat) (M : mm_M) (K : mm_M → Prop) (u0 : Int32) : Prop := mm_W mX6_next (d + 1) 0 0 84 [(0, .ref a)] [.int u0] mm_SH M 0 0 (mm_PV K)
def jX6_next_132 (d : Nat) (a : Nat) (M : mm_M) (K : mm_M → Prop) (y3 : Int32) : Prop := mm_W mX6_next (d + 1) 0 0 132 [(0, .ref a), (3, .int y3)] [] mm_SH M 0 0 (mm_PV K)
def jX6_next_177 (d : Nat) (a : Nat) (M : mm_M) (K : mm_M → Prop) : Prop := mm_W mX6_next (d + 1) 0 0 177 [(0, .ref a)] [] mm_SH M 0 0 (mm_PV K)
set_option maxRecDepth 100000 in
set_option maxHeartbeats 4000000 in
theorem rX6_next {d : Nat} {a : Nat} {M : mm_M} {K : mm_M → Prop} (ha : a ∈ mm_Rds) (hG : mm_G M.2.2) (h : mm_CV mX6_skipBlanks d [.ref a] M (fun m6 => if ((mm_uI (mm_uI m6 a 4 (m6.1 a 2)) a 5 (-1)).1 a 2) < 0 then (K (mm_uI (mm_uI (mm_uI m6 a 4 (m6.1 a 2)) a 5 (-1)) a 3 0)) else (if ((mm_uI (mm_uI m6 a 4 (m6.1 a 2)) a 5 (-1)).1 a 2) < ((mm_uI (mm_uI m6 a 4 (m6.1 a 2)) a 5 (-1)).1 a 1) then (if ((mm_uI (mm_uI m6 a 4 (m6.1 a 2)) a 5 (-1)).1 a 2) = (M.1 a 2) then (if ((mm_uI (mm_uI m6 a 4 (m6.1 a 2)) a 5 (-1)).1 a 2) ≤ 0 then (jX6_next_84 d a (mm_uI (mm_uI m6 a 4 (m6.1 a 2)) a 5 (-1)) K 0) else ((mm_uI (mm_uI m6 a 4 (m6.1 a 2)) a 5 (-1)).2.2 a 0 = some 1 ∧ vp_in (((mm_uI (mm_uI m6 a 4 (m6.1 a 2)) a 5 (-1)).1 a 2) - 1) 1600 ∧ mm_CI mX6_kindOf d [.int ((mm_uI (mm_uI m6 a 4 (m6.1 a 2)) a 5 (-1)).1 1 (((mm_uI (mm_uI m6 a 4 (m6.1 a 2)) a 5 (-1)).1 a 2) - 1).toNatClampNeg)] (mm_uI (mm_uI m6 a 4 (m6.1 a 2)) a 5 (-1)) (fun z72 m72 => if z72 = 3 then (jX6_next_84 d a m72 K 0) else (jX6_next_84 d a m72 K 1)))) else (jX6_next_84 d a (mm_uI (mm_uI m6 a 4 (m6.1 a 2)) a 5 (-1)) K 0)) else (K (mm_uI (mm_uI (mm_uI m6 a 4 (m6.1 a 2)) a 5 (-1)) a 3 0))))) : mm_CV mX6_next (d + 1) [.ref a] M K := by
  show mm_W mX6_next (d + 1) 0 0 0 [(0, .ref a)] [] mm_SH M 0 0 (mm_PV K)
  refine mm_aload_n (pc := 0) (j := 0) dX6_next_0 rfl rfl ?_
  refine mm_getI (pc := 1) (ci := 6) (N := 15) dX6_next_1 fX6_31 (sh_Rd ha) rfl ?_
  refine mm_istore_n (pc := 4) (lv' := [(1, .int (M.1 a 2)), (0, .ref a)]) dX6_next_4 rfl (by decide) rfl ?_
  refine mm_aload_n (pc := 5) (j := 1) dX6_next_5 rfl rfl ?_
  refine mm_kVV (pc := 6) [] dX6_next_6 kX6_46 rfl (sh_Rd ha) (Nat.le_of_ble_eq_true rfl) (Nat.le_of_ble_eq_true rfl) h (fun m6 hG h => ?_)
  refine mm_aload_n (pc := 9) (j := 1) dX6_next_9 rfl rfl ?_
  refine mm_aload_n (pc := 10) (j := 1) dX6_next_10 rfl rfl ?_
  refine mm_getI (pc := 11) (ci := 6) (N := 15) dX6_next_11 fX6_31 (sh_Rd ha) rfl ?_
  refine mm_putI (pc := 14) (ci := 6) (N := 15) dX6_next_14 fX6_49 (sh_Rd ha) (by decide +kernel) rfl rfl rfl ?_
  refine mm_aload_n (pc := 17) (j := 1) dX6_next_17 rfl rfl ?_
  refine mm_iconst (pc := 18) (x := (-1)) dX6_next_18 rfl ?_
  refine mm_putI (pc := 19) (ci := 6) (N := 15) dX6_next_19 fX6_52 (sh_Rd ha) (by decide +kernel) rfl rfl rfl ?_
  refine mm_aload_n (pc := 22) (j := 1) dX6_next_22 rfl rfl ?_
  refine mm_getI (pc := 23) (ci := 6) (N := 15) dX6_next_23 fX6_31 (sh_Rd ha) rfl ?_
  refine mm_if_lt (pc := 26) (tgt := 40) dX6_next_26 (by decide) (fun hc => ?_) (fun hc => ?_)
  · have h := mm_ift hc h
    refine mm_aload_n (pc := 40) (j := 1) dX6_next_40 rfl rfl ?_
    refine mm_iconst (pc := 41) (x := 0) dX6_next_41 rfl ?_
    refine mm_putI (pc := 42) (ci := 6) (N := 15) dX6_next_42 fX6_55 (sh_Rd ha) (by decide +kernel) rfl rfl rfl ?_
    exact mm_vret (pc := 45) dX6_next_45 rfl (Nat.le_refl 0) (Nat.le_refl 0) ⟨rfl, rfl, hG, h⟩
  · have h := mm_iff hc h
    refine mm_aload_n (pc := 29) (j := 1) dX6_next_29 rfl rfl ?_
    refine mm_getI (pc := 30) (ci := 6) (N := 15) dX6_next_30 fX6_31 (sh_Rd ha) rfl ?_
    refine mm_aload_n (pc := 33) (j := 1) dX6_next_33 rfl rfl ?_
    refine mm_getI (pc := 34) (ci := 6) (N := 15) dX6_next_34 fX6_24 (sh_Rd ha) rfl ?_
    refine mm_icmp_lt (pc := 37) (tgt := 46) dX6_next_37 (by decide) (fun hc => ?_) (fun hc => ?_)
    · have h := mm_ift hc h
      refine mm_aload_n (pc := 46) (j := 1) dX6_next_46 rfl rfl ?_
      refine mm_getI (pc := 47) (ci := 6) (N := 15) dX6_next_47 fX6_31 (sh_Rd ha) rfl ?_
      refine mm_iload_n (pc := 50) (j := 0) dX6_next_50 rfl rfl ?_
      refine mm_icmp_ne (pc := 51) (tgt := 83) dX6_next_51 (by decide) (fun hc => ?_) (fun hc => ?_)
      · have h := mm_iff hc h
        refine mm_iconst (pc := 83) (x := 0) dX6_next_83 rfl ?_
        exact mm_sub [1] rfl h
      · have h := mm_ift hc h
        refine mm_aload_n (pc := 54) (j := 1) dX6_next_54 rfl rfl ?_
        refine mm_getI (pc := 55) (ci := 6) (N := 15) dX6_next_55 fX6_31 (sh_Rd ha) rfl ?_
        refine mm_if_le (pc := 58) (tgt := 83) dX6_next_58 (by decide) (fun hc => ?_) (fun hc => ?_)
        · have h := mm_ift hc h
          refine mm_iconst (pc := 83) (x := 0) dX6_next_83 rfl ?_
          exact mm_sub [1] rfl h
        · have h := mm_iff hc h
          refine mm_aload_n (pc := 61) (j := 1) dX6_next_61 rfl rfl ?_
          obtain ⟨hq62, h⟩ := h
          refine mm_getR (pc := 62) (ci := 6) (N := 15) (r := 1) dX6_next_62 fX6_9 (sh_Rd ha) rfl hq62 ?_
          refine mm_aload_n (pc := 65) (j := 1) dX6_next_65 rfl rfl ?_
          refine mm_getI (pc := 66) (ci := 6) (N := 15) dX6_next_66 fX6_31 (sh_Rd ha) rfl ?_
          refine mm_iconst (pc := 69) (x := 1) dX6_next_69 rfl ?_
          refine mm_isub (pc := 70) dX6_next_70 ?_
          obtain ⟨hi71, h⟩ := h
          refine mm_iaload (pc := 71) (N := 1600) dX6_next_71 sh_1 hi71 ?_
          refine mm_kSI (pc := 72) [.int ((mm_uI (mm_uI m6 a 4 (m6.1 a 2)) a 5 (-1)).1 1 (((mm_uI (mm_uI m6 a 4 (m6.1 a 2)) a 5 (-1)).1 a 2) - 1).toNatClampNeg)] dX6_next_72 kX6_58 rfl (Nat.le_of_ble_eq_true rfl) (Nat.le_of_ble_eq_true rfl) h (fun z72 m72 hG h => ?_)
          refine mm_iconst (pc := 75) (x := 3) dX6_next_75 rfl ?_
          refine mm_icmp_eq (pc := 76) (tgt := 83) dX6_next_76 (by decide) (fun hc => ?_) (fun hc => ?_)
          · have h := mm_ift hc h
            refine mm_iconst (pc := 83) (x := 0) dX6_next_83 rfl ?_
            exact mm_sub [1] rfl h
          · have h := mm_iff hc h
            refine mm_iconst (pc := 79) (x := 1) dX6_next_79 rfl ?_
            refine mm_goto (pc := 80) (tgt := 84) dX6_next_80 (by decide) ?_
            exact mm_sub [1] rfl h
    · have h := mm_iff hc h
      refine mm_aload_n (pc := 40) (j := 1) dX6_next_40 rfl rfl ?_
      refine mm_iconst (pc := 41) (x := 0) dX6_next_41 rfl ?_
      refine mm_putI (pc := 42) (ci := 6) (N := 15) dX6_next_42 fX6_55 (sh_Rd ha) (by decide +kernel) rfl rfl rfl ?_
      exact mm_vret (pc := 45) dX6_next_45 rfl (Nat.le_refl 0) (Nat.le_refl 0) ⟨rfl, rfl, hG, h⟩
set_option maxRecDepth 100000 in
set_option maxHeartbeats 4000000 in
theorem lX6_next_84 {d : Nat} {a : Nat} {M : mm_M} {K : mm_M → Prop} {u0 : Int32} (ha : a ∈ mm_Rds) (hG : mm_G M.2.2) (h : M.2.2 a 0 = some 1 ∧ vp_in (M.1 a 2) 1600 ∧ if u0 = 0 then (mm_CI mX6_kindOf d [.int ((mm_uI M a 6 (M.1 1 (M.1 a 2).toNatClampNeg)).1 a 6)] (mm_uI M a 6 (M.1 1 (M.1 a 2).toNatClampNeg)) (fun z111 m111 => jX6_next_132 d a (mm_uI (mm_uI m111 a 3 z111) a 2 (((mm_uI m111 a 3 z111).1 a 2) + 1)) K ((mm_uI (mm_uI m111 a 3 z111) a 2 (((mm_uI m111 a 3 z111).1 a 2) + 1)).1 a 2))) else (jX6_next_132 d a (mm_uI (mm_uI (mm_uI M a 6 (M.1 1 (M.1 a 2).toNatClampNeg)) a 3 3) a 2 (((mm_uI (mm_uI M a 6 (M.1 1 (M.1 a 2).toNatClampNeg)) a 3 3).1 a 2) + 1)) K ((mm_uI (mm_uI (mm_uI M a 6 (M.1 1 (M.1 a 2).toNatClampNeg)) a 3 3) a 2 (((mm_uI (mm_uI M a 6 (M.1 1 (M.1 a 2).toNatClampNeg)) a 3 3).1 a 2) + 1)).1 a 2))) : jX6_next_84 d a M K u0 := by
  unfold jX6_next_84
  refine mm_istore_n (pc := 84) (lv' := [(2, .int u0), (0, .ref a)]) dX6_next_84 rfl (by decide) rfl ?_
  refine mm_aload_n (pc := 85) (j := 1) dX6_next_85 rfl rfl ?_
  refine mm_aload_n (pc := 86) (j := 1) dX6_next_86 rfl rfl ?_
  obtain ⟨hq87, h⟩ := h
  refine mm_getR (pc := 87) (ci := 6) (N := 15) (r := 1) dX6_next_87 fX6_9 (sh_Rd ha) rfl hq87 ?_
  refine mm_aload_n (pc := 90) (j := 1) dX6_next_90 rfl rfl ?_
  refine mm_getI (pc := 91) (ci := 6) (N := 15) dX6_next_91 fX6_31 (sh_Rd ha) rfl ?_
  obtain ⟨hi94, h⟩ := h
  refine mm_iaload (pc := 94) (N := 1600) dX6_next_94 sh_1 hi94 ?_
  refine mm_putI (pc := 95) (ci := 6) (N := 15) dX6_next_95 fX6_62 (sh_Rd ha) (by decide +kernel) rfl rfl rfl ?_
  refine mm_aload_n (pc := 98) (j := 1) dX6_next_98 rfl rfl ?_
  refine mm_iload_n (pc := 99) (j := 0) dX6_next_99 rfl rfl ?_
  refine mm_if_eq (pc := 100) (tgt := 107) dX6_next_100 (by decide) (fun hc => ?_) (fun hc => ?_)
  · have h := mm_ift hc h
    refine mm_aload_n (pc := 107) (j := 1) dX6_next_107 rfl rfl ?_
    refine mm_getI (pc := 108) (ci := 6) (N := 15) dX6_next_108 fX6_62 (sh_Rd ha) rfl ?_
    refine mm_kSI (pc := 111) [.int ((mm_uI M a 6 (M.1 1 (M.1 a 2).toNatClampNeg)).1 a 6)] dX6_next_111 kX6_58 rfl (Nat.le_of_ble_eq_true rfl) (Nat.le_of_ble_eq_true rfl) h (fun z111 m111 hG h => ?_)
    refine mm_putI (pc := 114) (ci := 6) (N := 15) dX6_next_114 fX6_55 (sh_Rd ha) (by decide +kernel) rfl rfl rfl ?_
    refine mm_aload_n (pc := 117) (j := 1) dX6_next_117 rfl rfl ?_
    refine mm_dup (pc := 118) dX6_next_118 rfl ?_
    refine mm_getI (pc := 119) (ci := 6) (N := 15) dX6_next_119 fX6_31 (sh_Rd ha) rfl ?_
    refine mm_iconst (pc := 122) (x := 1) dX6_next_122 rfl ?_
    refine mm_iadd (pc := 123) dX6_next_123 ?_
    refine mm_putI (pc := 124) (ci := 6) (N := 15) dX6_next_124 fX6_31 (sh_Rd ha) (by decide +kernel) rfl rfl rfl ?_
    refine mm_aload_n (pc := 127) (j := 1) dX6_next_127 rfl rfl ?_
    refine mm_getI (pc := 128) (ci := 6) (N := 15) dX6_next_128 fX6_31 (sh_Rd ha) rfl ?_
    refine mm_istore_n (pc := 131) (lv' := [(3, .int ((mm_uI (mm_uI m111 a 3 z111) a 2 (((mm_uI m111 a 3 z111).1 a 2) + 1)).1 a 2)), (2, .int u0), (0, .ref a)]) dX6_next_131 rfl (by decide) rfl ?_
    exact mm_sub [2, 0] rfl h
  · have h := mm_iff hc h
    refine mm_iconst (pc := 103) (x := 3) dX6_next_103 rfl ?_
    refine mm_goto (pc := 104) (tgt := 114) dX6_next_104 (by decide) ?_
    refine mm_putI (pc := 114) (ci := 6) (N := 15) dX6_next_114 fX6_55 (sh_Rd ha) (by decide +kernel) rfl rfl rfl ?_
    refine mm_aload_n (pc := 117) (j := 1) dX6_next_117 rfl rfl ?_
    refine mm_dup (pc := 118) dX6_next_118 rfl ?_
    refine mm_getI (pc := 119) (ci := 6) (N := 15) dX6_next_119 fX6_31 (sh_Rd ha) rfl ?_
    refine mm_iconst (pc := 122) (x := 1) dX6_next_122 rfl ?_
    refine mm_iadd (pc := 123) dX6_next_123 ?_
    refine mm_putI (pc := 124) (ci := 6) (N := 15) dX6_next_124 fX6_31 (sh_Rd ha) (by decide +kernel) rfl rfl rfl ?_
    refine mm_aload_n (pc := 127) (j := 1) dX6_next_127 rfl rfl ?_
    refine mm_getI (pc := 128) (ci := 6) (N := 15) dX6_next_128 fX6_31 (sh_Rd ha) rfl ?_
    refine mm_istore_n (pc := 131) (lv' := [(3, .int ((mm_uI (mm_uI (mm_uI M a 6 (M.1 1 (M.1 a 2).toNatClampNeg)) a 3 3) a 2 (((mm_uI (mm_uI M a 6 (M.1 1 (M.1 a 2).toNatClampNeg)) a 3 3).1 a 2) + 1)).1 a 2)), (2, .int u0), (0, .ref a)]) dX6_next_131 rfl (by decide) rfl ?_
    exact mm_sub [2, 0] rfl h
set_option maxRecDepth 100000 in
set_option maxHeartbeats 4000000 in
theorem lX6_next_132 {d : Nat} {a : Nat} {M : mm_M} {K : mm_M → Prop} {y3 : Int32} (ha : a ∈ mm_Rds) (hG : mm_G M.2.2) (h : if (M.1 a 3) = 3 then (jX6_next_177 d a M K) else (if (M.1 a 1) ≤ y3 then (jX6_next_177 d a M K) else (M.2.2 a 0 = some 1 ∧ vp_in y3 1600 ∧ mm_CI mX6_kindOf d [.int (M.1 1 y3.toNatClampNeg)] M (fun z154 m154 => if z154 = (m154.1 a 3) then (jX6_next_132 d a (mm_uI m154 a 2 (y3 + 1)) K (y3 + 1)) else (jX6_next_177 d a m154 K))))) : jX6_next_132 d a M K y3 := by
  unfold jX6_next_132
  refine mm_aload_n (pc := 132) (j := 0) dX6_next_132 rfl rfl ?_
  refine mm_getI (pc := 133) (ci := 6) (N := 15) dX6_next_133 fX6_55 (sh_Rd ha) rfl ?_
  refine mm_iconst (pc := 136) (x := 3) dX6_next_136 rfl ?_
  refine mm_icmp_eq (pc := 137) (tgt := 177) dX6_next_137 (by decide) (fun hc => ?_) (fun hc => ?_)
  · have h := mm_ift hc h
    exact mm_sub [0] rfl h
  · have h := mm_iff hc h
    refine mm_iload_n (pc := 140) (j := 1) dX6_next_140 rfl rfl ?_
    refine mm_aload_n (pc := 141) (j := 0) dX6_next_141 rfl rfl ?_
    refine mm_getI (pc := 142) (ci := 6) (N := 15) dX6_next_142 fX6_24 (sh_Rd ha) rfl ?_
    refine mm_icmp_ge (pc := 145) (tgt := 177) dX6_next_145 (by decide) (fun hc => ?_) (fun hc => ?_)
    · have h := mm_ift hc h
      exact mm_sub [0] rfl h
    · have h := mm_iff hc h
      refine mm_aload_n (pc := 148) (j := 0) dX6_next_148 rfl rfl ?_
      obtain ⟨hq149, h⟩ := h
      refine mm_getR (pc := 149) (ci := 6) (N := 15) (r := 1) dX6_next_149 fX6_9 (sh_Rd ha) rfl hq149 ?_
      refine mm_iload_n (pc := 152) (j := 1) dX6_next_152 rfl rfl ?_
      obtain ⟨hi153, h⟩ := h
      refine mm_iaload (pc := 153) (N := 1600) dX6_next_153 sh_1 hi153 ?_
      refine mm_kSI (pc := 154) [.int (M.1 1 y3.toNatClampNeg)] dX6_next_154 kX6_58 rfl (Nat.le_of_ble_eq_true rfl) (Nat.le_of_ble_eq_true rfl) h (fun z154 m154 hG h => ?_)
      refine mm_aload_n (pc := 157) (j := 0) dX6_next_157 rfl rfl ?_
      refine mm_getI (pc := 158) (ci := 6) (N := 15) dX6_next_158 fX6_55 (sh_Rd ha) rfl ?_
      refine mm_icmp_ne (pc := 161) (tgt := 177) dX6_next_161 (by decide) (fun hc => ?_) (fun hc => ?_)
      · have h := mm_iff hc h
        exact mm_sub [0] rfl h
      · have h := mm_ift hc h
        refine mm_aload_n (pc := 164) (j := 0) dX6_next_164 rfl rfl ?_
        refine mm_iload_n (pc := 165) (j := 1) dX6_next_165 rfl rfl ?_
        refine mm_iconst (pc := 166) (x := 1) dX6_next_166 rfl ?_
        refine mm_iadd (pc := 167) dX6_next_167 ?_
        refine mm_putI (pc := 168) (ci := 6) (N := 15) dX6_next_168 fX6_31 (sh_Rd ha) (by decide +kernel) rfl rfl rfl ?_
        refine mm_iinc (pc := 171) (j := 1) (v := y3 + 1) (lv' := [(3, .int (y3 + 1)), (0, .ref a)]) dX6_next_171 rfl rfl (by decide) rfl ?_
        refine mm_goto (pc := 174) (tgt := 132) dX6_next_174 (by decide) ?_
        exact mm_sub [1, 0] rfl h
set_option maxRecDepth 100000 in
set_option maxHeartbeats 4000000 in
theorem lX6_next_177 {d : Nat} {a : Nat} {M : mm_M} {K : mm_M → Prop} (ha : a ∈ mm_Rds) (hG : mm_G M.2.2) (h : if (M.1 a 3) = 1 then (mm_CI mX6_wordNumber d [.ref a] M (fun z187 m187 => K (mm_uI m187 a 5 z187))) else (if (M.1 a 3) = 2 then (mm_CI mX6_firstDigits d [.ref a] M (fun z206 m206 => K (mm_uI m206 a 7 z206))) else (K M))) : jX6_next_177 d a M K  := by
  unfold jX6_next_177
  refine mm_aload_n (pc := 177) (j := 0) dX6_next_177 rfl rfl ?_
  refine mm_getI (pc := 178) (ci := 6) (N := 15) dX6_next_178 fX6_55 (sh_Rd ha) rfl ?_
  refine mm_iconst (pc := 181) (x := 1) dX6_next_181 rfl ?_
  refine mm_icmp_ne (pc := 182) (tgt := 196) dX6_next_182 (by decide) (fun hc => ?_) (fun hc => ?_)
  · have h := mm_iff hc h
    refine mm_aload_n (pc := 196) (j := 0) dX6_next_196 rfl rfl ?_
    refine mm_getI (pc := 197) (ci := 6) (N := 15) dX6_next_197 fX6_55 (sh_Rd ha) rfl ?_
    refine mm_iconst (pc := 200) (x := 2) dX6_next_200 rfl ?_
    refine mm_icmp_ne (pc := 201) (tgt := 212) dX6_next_201 (by decide) (fun hc => ?_) (fun hc => ?_)
    · have h := mm_iff hc h
      exact mm_vret (pc := 212) dX6_next_212 rfl (Nat.le_refl 0) (Nat.le_refl 0) ⟨rfl, rfl, hG, h⟩
    · have h := mm_ift hc h
      refine mm_aload_n (pc := 204) (j := 0) dX6_next_204 rfl rfl ?_
      refine mm_aload_n (pc := 205) (j := 0) dX6_next_205 rfl rfl ?_
      refine mm_kVI (pc := 206) [] dX6_next_206 kX6_69 rfl (sh_Rd ha) (Nat.le_of_ble_eq_true rfl) (Nat.le_of_ble_eq_true rfl) h (fun z206 m206 hG h => ?_)
      refine mm_putI (pc := 209) (ci := 6) (N := 15) dX6_next_209 fX6_72 (sh_Rd ha) (by decide +kernel) rfl rfl rfl ?_
      exact mm_vret (pc := 212) dX6_next_212 rfl (Nat.le_refl 0) (Nat.le_refl 0) ⟨rfl, rfl, hG, h⟩
  · have h := mm_ift hc h
    refine mm_aload_n (pc := 185) (j := 0) dX6_next_185 rfl rfl ?_
    refine mm_aload_n (pc := 186) (j := 0) dX6_next_186 rfl rfl ?_
    refine mm_kVI (pc := 187) [] dX6_next_187 kX6_65 rfl (sh_Rd ha) (Nat.le_of_ble_eq_true rfl) (Nat.le_of_ble_eq_true rfl) h (fun z187 m187 hG h => ?_)
    refine mm_putI (pc := 190) (ci := 6) (N := 15) dX6_next_190 fX6_52 (sh_Rd ha) (by decide +kernel) rfl rfl rfl ?_
    refine mm_goto (pc := 193) (tgt := 212) dX6_next_193 (by decide) ?_
    exact mm_vret (pc := 212) dX6_next_212 rfl (Nat.le_refl 0) (Nat.le_refl 0) ⟨rfl, rfl, hG, h⟩
set_option maxRecDepth 100000 in
set_option maxHeartbeats 4000000 in
theorem rX6_isSign {d : Nat} {a : Nat} {x1 : Int32} {M : mm_M} {K : Int32 → mm_M → Prop} (ha : a ∈ mm_Rds) (hG : mm_G M.2.2) (h : if (M.1 a 3) = 3 then (if (M.1 a 6) = x1 then (K 1 M) else (K 0 M)) else (K 0 M)) : mm_CI mX6_isSign d [.ref a, .int x1] M K := by
  show mm_W mX6_isSign d 0 0 0 [(0, .ref a), (1, .int x1)] [] mm_SH M 0 0 (mm_PI K)
  refine mm_aload_n (pc := 0) (j := 0) dX6_isSign_0 rfl rfl ?_
  refine mm_getI (pc := 1) (ci := 6) (N := 15) dX6_isSign_1 fX6_55 (sh_Rd ha) rfl ?_
  refine mm_iconst (pc := 4) (x := 3) dX6_isSign_4 rfl ?_
  refine mm_icmp_ne (pc := 5) (tgt := 20) dX6_isSign_5 (by decide) (fun hc => ?_) (fun hc => ?_)
  · have h := mm_iff hc h
    refine mm_iconst (pc := 20) (x := 0) dX6_isSign_20 rfl ?_
    exact mm_zret (pc := 21) dX6_isSign_21 rfl rfl (Nat.le_refl 0) (Nat.le_refl 0) ⟨_, rfl, rfl, hG, h⟩
  · have h := mm_ift hc h
    refine mm_aload_n (pc := 8) (j := 0) dX6_isSign_8 rfl rfl ?_
    refine mm_getI (pc := 9) (ci := 6) (N := 15) dX6_isSign_9 fX6_62 (sh_Rd ha) rfl ?_
    refine mm_iload_n (pc := 12) (j := 1) dX6_isSign_12 rfl rfl ?_
    refine mm_icmp_ne (pc := 13) (tgt := 20) dX6_isSign_13 (by decide) (fun hc => ?_) (fun hc => ?_)
    · have h := mm_iff hc h
      refine mm_iconst (pc := 20) (x := 0) dX6_isSign_20 rfl ?_
      exact mm_zret (pc := 21) dX6_isSign_21 rfl rfl (Nat.le_refl 0) (Nat.le_refl 0) ⟨_, rfl, rfl, hG, h⟩
    · have h := mm_ift hc h
      refine mm_iconst (pc := 16) (x := 1) dX6_isSign_16 rfl ?_
      refine mm_goto (pc := 17) (tgt := 21) dX6_isSign_17 (by decide) ?_
      exact mm_zret (pc := 21) dX6_isSign_21 rfl rfl (Nat.le_refl 0) (Nat.le_refl 0) ⟨_, rfl, rfl, hG, h⟩
set_option maxRecDepth 100000 in
set_option maxHeartbeats 4000000 in
theorem rX6_takeWord {d : Nat} {a : Nat} {x1 : Int32} {M : mm_M} {K : Int32 → mm_M → Prop} (ha : a ∈ mm_Rds) (hG : mm_G M.2.2) (h : if (M.1 a 8) = 0 then (if (M.1 a 5) = x1 then (mm_CV mX6_next d [.ref a] M (fun m18 => K 1 m18)) else (K 0 M)) else (K 0 M)) : mm_CI mX6_takeWord (d + 1) [.ref a, .int x1] M K := by
  show mm_W mX6_takeWord (d + 1) 0 0 0 [(0, .ref a), (1, .int x1)] [] mm_SH M 0 0 (mm_PI K)
  refine mm_aload_n (pc := 0) (j := 0) dX6_takeWord_0 rfl rfl ?_
  refine mm_getI (pc := 1) (ci := 6) (N := 15) dX6_takeWord_1 fX6_34 (sh_Rd ha) rfl ?_
  refine mm_if_ne (pc := 4) (tgt := 15) dX6_takeWord_4 (by decide) (fun hc => ?_) (fun hc => ?_)
  · have h := mm_iff hc h
    refine mm_iconst (pc := 15) (x := 0) dX6_takeWord_15 rfl ?_
    exact mm_zret (pc := 16) dX6_takeWord_16 rfl rfl (Nat.le_refl 0) (Nat.le_refl 0) ⟨_, rfl, rfl, hG, h⟩
  · have h := mm_ift hc h
    refine mm_aload_n (pc := 7) (j := 0) dX6_takeWord_7 rfl rfl ?_
    refine mm_getI (pc := 8) (ci := 6) (N := 15) dX6_takeWord_8 fX6_52 (sh_Rd ha) rfl ?_
    refine mm_iload_n (pc := 11) (j := 1) dX6_takeWord_11 rfl rfl ?_
    refine mm_icmp_eq (pc := 12) (tgt := 17) dX6_takeWord_12 (by decide) (fun hc => ?_) (fun hc => ?_)
    · have h := mm_ift hc h
      refine mm_aload_n (pc := 17) (j := 0) dX6_takeWord_17 rfl rfl ?_
      refine mm_kVV (pc := 18) [] dX6_takeWord_18 kX6_43 rfl (sh_Rd ha) (Nat.le_of_ble_eq_true rfl) (Nat.le_of_ble_eq_true rfl) h (fun m18 hG h => ?_)
      refine mm_iconst (pc := 21) (x := 1) dX6_takeWord_21 rfl ?_
      exact mm_zret (pc := 22) dX6_takeWord_22 rfl rfl (Nat.le_refl 0) (Nat.le_refl 0) ⟨_, rfl, rfl, hG, h⟩
    · have h := mm_iff hc h
      refine mm_iconst (pc := 15) (x := 0) dX6_takeWord_15 rfl ?_
      exact mm_zret (pc := 16) dX6_takeWord_16 rfl rfl (Nat.le_refl 0) (Nat.le_refl 0) ⟨_, rfl, rfl, hG, h⟩
set_option maxRecDepth 100000 in
set_option maxHeartbeats 4000000 in
theorem rX6_expectWord {d : Nat} {a : Nat} {x1 : Int32} {M : mm_M} {K : mm_M → Prop} (ha : a ∈ mm_Rds) (hG : mm_G M.2.2) (h : mm_CI mX6_takeWord d [.ref a, .int x1] M (fun z2 m2 => if z2 = 0 then (mm_CV mX6_refuse d [.ref a, .int 1, .int (m2.1 a 4)] m2 (fun m14 => K m14)) else (K m2))) : mm_CV mX6_expectWord (d + 1) [.ref a, .int x1] M K := by
  show mm_W mX6_expectWord (d + 1) 0 0 0 [(0, .ref a), (1, .int x1)] [] mm_SH M 0 0 (mm_PV K)
  refine mm_aload_n (pc := 0) (j := 0) dX6_expectWord_0 rfl rfl ?_
  refine mm_iload_n (pc := 1) (j := 1) dX6_expectWord_1 rfl rfl ?_
  refine mm_kVI (pc := 2) [.int x1] dX6_expectWord_2 kX6_75 rfl (sh_Rd ha) (Nat.le_of_ble_eq_true rfl) (Nat.le_of_ble_eq_true rfl) h (fun z2 m2 hG h => ?_)
  refine mm_if_ne (pc := 5) (tgt := 17) dX6_expectWord_5 (by decide) (fun hc => ?_) (fun hc => ?_)
  · have h := mm_iff hc h
    exact mm_vret (pc := 17) dX6_expectWord_17 rfl (Nat.le_refl 0) (Nat.le_refl 0) ⟨rfl, rfl, hG, h⟩
  · have h := mm_ift hc h
    refine mm_aload_n (pc := 8) (j := 0) dX6_expectWord_8 rfl rfl ?_
    refine mm_iconst (pc := 9) (x := 1) dX6_expectWord_9 rfl ?_
    refine mm_aload_n (pc := 10) (j := 0) dX6_expectWord_10 rfl rfl ?_
    refine mm_getI (pc := 11) (ci := 6) (N := 15) dX6_expectWord_11 fX6_49 (sh_Rd ha) rfl ?_
    refine mm_kVV (pc := 14) [.int 1, .int (m2.1 a 4)] dX6_expectWord_14 kX6_79 rfl (sh_Rd ha) (Nat.le_of_ble_eq_true rfl) (Nat.le_of_ble_eq_true rfl) h (fun m14 hG h => ?_)
    exact mm_vret (pc := 17) dX6_expectWord_17 rfl (Nat.le_refl 0) (Nat.le_refl 0) ⟨rfl, rfl, hG, h⟩
set_option maxRecDepth 100000 in
set_option maxHeartbeats 4000000 in
theorem rX6_expectSign {d : Nat} {a : Nat} {x1 : Int32} {M : mm_M} {K : mm_M → Prop} (ha : a ∈ mm_Rds) (hG : mm_G M.2.2) (h : if (M.1 a 8) = 0 then (mm_CI mX6_isSign d [.ref a, .int x1] M (fun z9 m9 => if z9 = 0 then (mm_CV mX6_refuse d [.ref a, .int 1, .int (m9.1 a 4)] m9 (fun m28 => K m28)) else (mm_CV mX6_next d [.ref a] m9 (fun m16 => K m16)))) else (mm_CV mX6_refuse d [.ref a, .int 1, .int (M.1 a 4)] M (fun m28 => K m28))) : mm_CV mX6_expectSign (d + 1) [.ref a, .int x1] M K := by
  show mm_W mX6_expectSign (d + 1) 0 0 0 [(0, .ref a), (1, .int x1)] [] mm_SH M 0 0 (mm_PV K)
  refine mm_aload_n (pc := 0) (j := 0) dX6_expectSign_0 rfl rfl ?_
  refine mm_getI (pc := 1) (ci := 6) (N := 15) dX6_expectSign_1 fX6_34 (sh_Rd ha) rfl ?_
  refine mm_if_ne (pc := 4) (tgt := 22) dX6_expectSign_4 (by decide) (fun hc => ?_) (fun hc => ?_)
  · have h := mm_iff hc h
    refine mm_aload_n (pc := 22) (j := 0) dX6_expectSign_22 rfl rfl ?_
    refine mm_iconst (pc := 23) (x := 1) dX6_expectSign_23 rfl ?_
    refine mm_aload_n (pc := 24) (j := 0) dX6_expectSign_24 rfl rfl ?_
    refine mm_getI (pc := 25) (ci := 6) (N := 15) dX6_expectSign_25 fX6_49 (sh_Rd ha) rfl ?_
    refine mm_kVV (pc := 28) [.int 1, .int (M.1 a 4)] dX6_expectSign_28 kX6_79 rfl (sh_Rd ha) (Nat.le_of_ble_eq_true rfl) (Nat.le_of_ble_eq_true rfl) h (fun m28 hG h => ?_)
    exact mm_vret (pc := 31) dX6_expectSign_31 rfl (Nat.le_refl 0) (Nat.le_refl 0) ⟨rfl, rfl, hG, h⟩
  · have h := mm_ift hc h
    refine mm_aload_n (pc := 7) (j := 0) dX6_expectSign_7 rfl rfl ?_
    refine mm_iload_n (pc := 8) (j := 1) dX6_expectSign_8 rfl rfl ?_
    refine mm_kVI (pc := 9) [.int x1] dX6_expectSign_9 kX6_83 rfl (sh_Rd ha) (Nat.le_of_ble_eq_true rfl) (Nat.le_of_ble_eq_true rfl) h (fun z9 m9 hG h => ?_)
    refine mm_if_eq (pc := 12) (tgt := 22) dX6_expectSign_12 (by decide) (fun hc => ?_) (fun hc => ?_)
    · have h := mm_ift hc h
      refine mm_aload_n (pc := 22) (j := 0) dX6_expectSign_22 rfl rfl ?_
      refine mm_iconst (pc := 23) (x := 1) dX6_expectSign_23 rfl ?_
      refine mm_aload_n (pc := 24) (j := 0) dX6_expectSign_24 rfl rfl ?_
      refine mm_getI (pc := 25) (ci := 6) (N := 15) dX6_expectSign_25 fX6_49 (sh_Rd ha) rfl ?_
      refine mm_kVV (pc := 28) [.int 1, .int (m9.1 a 4)] dX6_expectSign_28 kX6_79 rfl (sh_Rd ha) (Nat.le_of_ble_eq_true rfl) (Nat.le_of_ble_eq_true rfl) h (fun m28 hG h => ?_)
      exact mm_vret (pc := 31) dX6_expectSign_31 rfl (Nat.le_refl 0) (Nat.le_refl 0) ⟨rfl, rfl, hG, h⟩
    · have h := mm_iff hc h
      refine mm_aload_n (pc := 15) (j := 0) dX6_expectSign_15 rfl rfl ?_
      refine mm_kVV (pc := 16) [] dX6_expectSign_16 kX6_43 rfl (sh_Rd ha) (Nat.le_of_ble_eq_true rfl) (Nat.le_of_ble_eq_true rfl) h (fun m16 hG h => ?_)
      refine mm_goto (pc := 19) (tgt := 31) dX6_expectSign_19 (by decide) ?_
      exact mm_vret (pc := 31) dX6_expectSign_31 rfl (Nat.le_refl 0) (Nat.le_refl 0) ⟨rfl, rfl, hG, h⟩
def jX6_takeNumber_63 (d : Nat) (a : Nat) (x1 : Int32) (x2 : Int32) (M : mm_M) (K : Int32 → mm_M → Prop) : Prop := mm_W mX6_takeNumber (d + 1) 0 0 63 [(0, .ref a)] [] mm_SH M 0 0 (mm_PI K)
set_option maxRecDepth 100000 in
set_option maxHeartbeats 4000000 in
theorem rX6_takeNumber {d : Nat} {a : Nat} {x1 : Int32} {x2 : Int32} {M : mm_M} {K : Int32 → mm_M → Prop} (ha : a ∈ mm_Rds) (hG : mm_G M.2.2) (h : if (M.1 a 3) = 2 then (if ((M.1 a 2) - (M.1 a 4)) ≤ 4 then (if (M.1 a 7) < x1 then (jX6_takeNumber_63 d a x1 x2 M K) else (if (M.1 a 7) ≤ x2 then (if (M.1 a 8) = 0 then (mm_CV mX6_next d [.ref a] M (fun m87 => K (M.1 a 7) m87)) else (K 0 M)) else (jX6_takeNumber_63 d a x1 x2 M K))) else (mm_CV mX6_refuse d [.ref a, .int 1, .int ((M.1 a 4) + 4)] M (fun m41 => if (m41.1 a 8) = 0 then (mm_CV mX6_next d [.ref a] m41 (fun m87 => K (m41.1 a 7) m87)) else (K 0 m41)))) else (mm_CV mX6_refuse d [.ref a, .int 1, .int (M.1 a 4)] M (fun m14 => if (m14.1 a 8) = 0 then (mm_CV mX6_next d [.ref a] m14 (fun m87 => K (m14.1 a 7) m87)) else (K 0 m14)))) : mm_CI mX6_takeNumber (d + 1) [.ref a, .int x1, .int x2] M K := by
  show mm_W mX6_takeNumber (d + 1) 0 0 0 [(0, .ref a), (1, .int x1), (2, .int x2)] [] mm_SH M 0 0 (mm_PI K)
  refine mm_aload_n (pc := 0) (j := 0) dX6_takeNumber_0 rfl rfl ?_
  refine mm_getI (pc := 1) (ci := 6) (N := 15) dX6_takeNumber_1 fX6_55 (sh_Rd ha) rfl ?_
  refine mm_iconst (pc := 4) (x := 2) dX6_takeNumber_4 rfl ?_
  refine mm_icmp_eq (pc := 5) (tgt := 20) dX6_takeNumber_5 (by decide) (fun hc => ?_) (fun hc => ?_)
  · have h := mm_ift hc h
    refine mm_aload_n (pc := 20) (j := 0) dX6_takeNumber_20 rfl rfl ?_
    refine mm_getI (pc := 21) (ci := 6) (N := 15) dX6_takeNumber_21 fX6_31 (sh_Rd ha) rfl ?_
    refine mm_aload_n (pc := 24) (j := 0) dX6_takeNumber_24 rfl rfl ?_
    refine mm_getI (pc := 25) (ci := 6) (N := 15) dX6_takeNumber_25 fX6_49 (sh_Rd ha) rfl ?_
    refine mm_isub (pc := 28) dX6_takeNumber_28 ?_
    refine mm_iconst (pc := 29) (x := 4) dX6_takeNumber_29 rfl ?_
    refine mm_icmp_le (pc := 30) (tgt := 47) dX6_takeNumber_30 (by decide) (fun hc => ?_) (fun hc => ?_)
    · have h := mm_ift hc h
      refine mm_aload_n (pc := 47) (j := 0) dX6_takeNumber_47 rfl rfl ?_
      refine mm_getI (pc := 48) (ci := 6) (N := 15) dX6_takeNumber_48 fX6_72 (sh_Rd ha) rfl ?_
      refine mm_iload_n (pc := 51) (j := 1) dX6_takeNumber_51 rfl rfl ?_
      refine mm_icmp_lt (pc := 52) (tgt := 63) dX6_takeNumber_52 (by decide) (fun hc => ?_) (fun hc => ?_)
      · have h := mm_ift hc h
        exact mm_sub [0] rfl h
      · have h := mm_iff hc h
        refine mm_aload_n (pc := 55) (j := 0) dX6_takeNumber_55 rfl rfl ?_
        refine mm_getI (pc := 56) (ci := 6) (N := 15) dX6_takeNumber_56 fX6_72 (sh_Rd ha) rfl ?_
        refine mm_iload_n (pc := 59) (j := 2) dX6_takeNumber_59 rfl rfl ?_
        refine mm_icmp_le (pc := 60) (tgt := 72) dX6_takeNumber_60 (by decide) (fun hc => ?_) (fun hc => ?_)
        · have h := mm_ift hc h
          refine mm_aload_n (pc := 72) (j := 0) dX6_takeNumber_72 rfl rfl ?_
          refine mm_getI (pc := 73) (ci := 6) (N := 15) dX6_takeNumber_73 fX6_34 (sh_Rd ha) rfl ?_
          refine mm_if_eq (pc := 76) (tgt := 81) dX6_takeNumber_76 (by decide) (fun hc => ?_) (fun hc => ?_)
          · have h := mm_ift hc h
            refine mm_aload_n (pc := 81) (j := 0) dX6_takeNumber_81 rfl rfl ?_
            refine mm_getI (pc := 82) (ci := 6) (N := 15) dX6_takeNumber_82 fX6_72 (sh_Rd ha) rfl ?_
            refine mm_istore_n (pc := 85) (lv' := [(3, .int (M.1 a 7)), (0, .ref a), (1, .int x1), (2, .int x2)]) dX6_takeNumber_85 rfl (by decide) rfl ?_
            refine mm_aload_n (pc := 86) (j := 1) dX6_takeNumber_86 rfl rfl ?_
            refine mm_kVV (pc := 87) [] dX6_takeNumber_87 kX6_43 rfl (sh_Rd ha) (Nat.le_of_ble_eq_true rfl) (Nat.le_of_ble_eq_true rfl) h (fun m87 hG h => ?_)
            refine mm_iload_n (pc := 90) (j := 0) dX6_takeNumber_90 rfl rfl ?_
            exact mm_iret (pc := 91) dX6_takeNumber_91 rfl (Nat.le_refl 0) (Nat.le_refl 0) ⟨_, rfl, rfl, hG, h⟩
          · have h := mm_iff hc h
            refine mm_iconst (pc := 79) (x := 0) dX6_takeNumber_79 rfl ?_
            exact mm_iret (pc := 80) dX6_takeNumber_80 rfl (Nat.le_refl 0) (Nat.le_refl 0) ⟨_, rfl, rfl, hG, h⟩
        · have h := mm_iff hc h
          exact mm_sub [0] rfl h
    · have h := mm_iff hc h
      refine mm_aload_n (pc := 33) (j := 0) dX6_takeNumber_33 rfl rfl ?_
      refine mm_iconst (pc := 34) (x := 1) dX6_takeNumber_34 rfl ?_
      refine mm_aload_n (pc := 35) (j := 0) dX6_takeNumber_35 rfl rfl ?_
      refine mm_getI (pc := 36) (ci := 6) (N := 15) dX6_takeNumber_36 fX6_49 (sh_Rd ha) rfl ?_
      refine mm_iconst (pc := 39) (x := 4) dX6_takeNumber_39 rfl ?_
      refine mm_iadd (pc := 40) dX6_takeNumber_40 ?_
      refine mm_kVV (pc := 41) [.int 1, .int ((M.1 a 4) + 4)] dX6_takeNumber_41 kX6_79 rfl (sh_Rd ha) (Nat.le_of_ble_eq_true rfl) (Nat.le_of_ble_eq_true rfl) h (fun m41 hG h => ?_)
      refine mm_goto (pc := 44) (tgt := 72) dX6_takeNumber_44 (by decide) ?_
      refine mm_aload_n (pc := 72) (j := 0) dX6_takeNumber_72 rfl rfl ?_
      refine mm_getI (pc := 73) (ci := 6) (N := 15) dX6_takeNumber_73 fX6_34 (sh_Rd ha) rfl ?_
      refine mm_if_eq (pc := 76) (tgt := 81) dX6_takeNumber_76 (by decide) (fun hc => ?_) (fun hc => ?_)
      · have h := mm_ift hc h
        refine mm_aload_n (pc := 81) (j := 0) dX6_takeNumber_81 rfl rfl ?_
        refine mm_getI (pc := 82) (ci := 6) (N := 15) dX6_takeNumber_82 fX6_72 (sh_Rd ha) rfl ?_
        refine mm_istore_n (pc := 85) (lv' := [(3, .int (m41.1 a 7)), (0, .ref a), (1, .int x1), (2, .int x2)]) dX6_takeNumber_85 rfl (by decide) rfl ?_
        refine mm_aload_n (pc := 86) (j := 1) dX6_takeNumber_86 rfl rfl ?_
        refine mm_kVV (pc := 87) [] dX6_takeNumber_87 kX6_43 rfl (sh_Rd ha) (Nat.le_of_ble_eq_true rfl) (Nat.le_of_ble_eq_true rfl) h (fun m87 hG h => ?_)
        refine mm_iload_n (pc := 90) (j := 0) dX6_takeNumber_90 rfl rfl ?_
        exact mm_iret (pc := 91) dX6_takeNumber_91 rfl (Nat.le_refl 0) (Nat.le_refl 0) ⟨_, rfl, rfl, hG, h⟩
      · have h := mm_iff hc h
        refine mm_iconst (pc := 79) (x := 0) dX6_takeNumber_79 rfl ?_
        exact mm_iret (pc := 80) dX6_takeNumber_80 rfl (Nat.le_refl 0) (Nat.le_refl 0) ⟨_, rfl, rfl, hG, h⟩
  · have h := mm_iff hc h
    refine mm_aload_n (pc := 8) (j := 0) dX6_takeNumber_8 rfl rfl ?_
    refine mm_iconst (pc := 9) (x := 1) dX6_takeNumber_9 rfl ?_
    refine mm_aload_n (pc := 10) (j := 0) dX6_takeNumber_10 rfl rfl ?_
    refine mm_getI (pc := 11) (ci := 6) (N := 15) dX6_takeNumber_11 fX6_49 (sh_Rd ha) rfl ?_
    refine mm_kVV (pc := 14) [.int 1, .int (M.1 a 4)] dX6_takeNumber_14 kX6_79 rfl (sh_Rd ha) (Nat.le_of_ble_eq_true rfl) (Nat.le_of_ble_eq_true rfl) h (fun m14 hG h => ?_)
    refine mm_goto (pc := 17) (tgt := 72) dX6_takeNumber_17 (by decide) ?_
    refine mm_aload_n (pc := 72) (j := 0) dX6_takeNumber_72 rfl rfl ?_
    refine mm_getI (pc := 73) (ci := 6) (N := 15) dX6_takeNumber_73 fX6_34 (sh_Rd ha) rfl ?_
    refine mm_if_eq (pc := 76) (tgt := 81) dX6_takeNumber_76 (by decide) (fun hc => ?_) (fun hc => ?_)
    · have h := mm_ift hc h
      refine mm_aload_n (pc := 81) (j := 0) dX6_takeNumber_81 rfl rfl ?_
      refine mm_getI (pc := 82) (ci := 6) (N := 15) dX6_takeNumber_82 fX6_72 (sh_Rd ha) rfl ?_
      refine mm_istore_n (pc := 85) (lv' := [(3, .int (m14.1 a 7)), (0, .ref a), (1, .int x1), (2, .int x2)]) dX6_takeNumber_85 rfl (by decide) rfl ?_
      refine mm_aload_n (pc := 86) (j := 1) dX6_takeNumber_86 rfl rfl ?_
      refine mm_kVV (pc := 87) [] dX6_takeNumber_87 kX6_43 rfl (sh_Rd ha) (Nat.le_of_ble_eq_true rfl) (Nat.le_of_ble_eq_true rfl) h (fun m87 hG h => ?_)
      refine mm_iload_n (pc := 90) (j := 0) dX6_takeNumber_90 rfl rfl ?_
      exact mm_iret (pc := 91) dX6_takeNumber_91 rfl (Nat.le_refl 0) (Nat.le_refl 0) ⟨_, rfl, rfl, hG, h⟩
    · have h := mm_iff hc h
      refine mm_iconst (pc := 79) (x := 0) dX6_takeNumber_79 rfl ?_
      exact mm_iret (pc := 80) dX6_takeNumber_80 rfl (Nat.le_refl 0) (Nat.le_refl 0) ⟨_, rfl, rfl, hG, h⟩
set_option maxRecDepth 100000 in
set_option maxHeartbeats 4000000 in
theorem lX6_takeNumber_63 {d : Nat} {a : Nat} {x1 : Int32} {x2 : Int32} {M : mm_M} {K : Int32 → mm_M → Prop} (ha : a ∈ mm_Rds) (hG : mm_G M.2.2) (h : mm_CV mX6_refuse d [.ref a, .int 2, .int (M.1 a 4)] M (fun m69 => if (m69.1 a 8) = 0 then (mm_CV mX6_next d [.ref a] m69 (fun m87 => K (m69.1 a 7) m87)) else (K 0 m69))) : jX6_takeNumber_63 d a x1 x2 M K  := by
  unfold jX6_takeNumber_63
  refine mm_aload_n (pc := 63) (j := 0) dX6_takeNumber_63 rfl rfl ?_
  refine mm_iconst (pc := 64) (x := 2) dX6_takeNumber_64 rfl ?_
  refine mm_aload_n (pc := 65) (j := 0) dX6_takeNumber_65 rfl rfl ?_
  refine mm_getI (pc := 66) (ci := 6) (N := 15) dX6_takeNumber_66 fX6_49 (sh_Rd ha) rfl ?_
  refine mm_kVV (pc := 69) [.int 2, .int (M.1 a 4)] dX6_takeNumber_69 kX6_79 rfl (sh_Rd ha) (Nat.le_of_ble_eq_true rfl) (Nat.le_of_ble_eq_true rfl) h (fun m69 hG h => ?_)
  refine mm_aload_n (pc := 72) (j := 0) dX6_takeNumber_72 rfl rfl ?_
  refine mm_getI (pc := 73) (ci := 6) (N := 15) dX6_takeNumber_73 fX6_34 (sh_Rd ha) rfl ?_
  refine mm_if_eq (pc := 76) (tgt := 81) dX6_takeNumber_76 (by decide) (fun hc => ?_) (fun hc => ?_)
  · have h := mm_ift hc h
    refine mm_aload_n (pc := 81) (j := 0) dX6_takeNumber_81 rfl rfl ?_
    refine mm_getI (pc := 82) (ci := 6) (N := 15) dX6_takeNumber_82 fX6_72 (sh_Rd ha) rfl ?_
    refine mm_istore_n (pc := 85) (lv' := [(3, .int (m69.1 a 7)), (0, .ref a)]) dX6_takeNumber_85 rfl (by decide) rfl ?_
    refine mm_aload_n (pc := 86) (j := 1) dX6_takeNumber_86 rfl rfl ?_
    refine mm_kVV (pc := 87) [] dX6_takeNumber_87 kX6_43 rfl (sh_Rd ha) (Nat.le_of_ble_eq_true rfl) (Nat.le_of_ble_eq_true rfl) h (fun m87 hG h => ?_)
    refine mm_iload_n (pc := 90) (j := 0) dX6_takeNumber_90 rfl rfl ?_
    exact mm_iret (pc := 91) dX6_takeNumber_91 rfl (Nat.le_refl 0) (Nat.le_refl 0) ⟨_, rfl, rfl, hG, h⟩
  · have h := mm_iff hc h
    refine mm_iconst (pc := 79) (x := 0) dX6_takeNumber_79 rfl ?_
    exact mm_iret (pc := 80) dX6_takeNumber_80 rfl (Nat.le_refl 0) (Nat.le_refl 0) ⟨_, rfl, rfl, hG, h⟩
def jX6_isAtName_36 (d : Nat) (a : Nat) (M : mm_M) (K : Int32 → mm_M → Prop) : Prop := mm_W mX6_isAtName (d + 1) 0 0 36 [(0, .ref a)] [] mm_SH M 0 0 (mm_PI K)
set_option maxRecDepth 100000 in
set_option maxHeartbeats 4000000 in
theorem rX6_isAtName {d : Nat} {a : Nat} {M : mm_M} {K : Int32 → mm_M → Prop} (ha : a ∈ mm_Rds) (hG : mm_G M.2.2) (h : if (M.1 a 3) = 1 then (if (M.1 a 5) < 0 then (jX6_isAtName_36 d a M K) else (if 24 ≤ (M.1 a 5) then (jX6_isAtName_36 d a M K) else (mm_CV mX6_refuse d [.ref a, .int 1, .int (M.1 a 4)] M (fun m30 => if (m30.1 a 8) = 0 then (K 1 m30) else (K 0 m30))))) else (mm_CV mX6_refuse d [.ref a, .int 1, .int (M.1 a 4)] M (fun m30 => if (m30.1 a 8) = 0 then (K 1 m30) else (K 0 m30)))) : mm_CI mX6_isAtName (d + 1) [.ref a] M K := by
  show mm_W mX6_isAtName (d + 1) 0 0 0 [(0, .ref a)] [] mm_SH M 0 0 (mm_PI K)
  refine mm_aload_n (pc := 0) (j := 0) dX6_isAtName_0 rfl rfl ?_
  refine mm_getI (pc := 1) (ci := 6) (N := 15) dX6_isAtName_1 fX6_55 (sh_Rd ha) rfl ?_
  refine mm_iconst (pc := 4) (x := 1) dX6_isAtName_4 rfl ?_
  refine mm_icmp_ne (pc := 5) (tgt := 24) dX6_isAtName_5 (by decide) (fun hc => ?_) (fun hc => ?_)
  · have h := mm_iff hc h
    refine mm_aload_n (pc := 24) (j := 0) dX6_isAtName_24 rfl rfl ?_
    refine mm_iconst (pc := 25) (x := 1) dX6_isAtName_25 rfl ?_
    refine mm_aload_n (pc := 26) (j := 0) dX6_isAtName_26 rfl rfl ?_
    refine mm_getI (pc := 27) (ci := 6) (N := 15) dX6_isAtName_27 fX6_49 (sh_Rd ha) rfl ?_
    refine mm_kVV (pc := 30) [.int 1, .int (M.1 a 4)] dX6_isAtName_30 kX6_79 rfl (sh_Rd ha) (Nat.le_of_ble_eq_true rfl) (Nat.le_of_ble_eq_true rfl) h (fun m30 hG h => ?_)
    refine mm_goto (pc := 33) (tgt := 62) dX6_isAtName_33 (by decide) ?_
    refine mm_aload_n (pc := 62) (j := 0) dX6_isAtName_62 rfl rfl ?_
    refine mm_getI (pc := 63) (ci := 6) (N := 15) dX6_isAtName_63 fX6_34 (sh_Rd ha) rfl ?_
    refine mm_if_ne (pc := 66) (tgt := 73) dX6_isAtName_66 (by decide) (fun hc => ?_) (fun hc => ?_)
    · have h := mm_iff hc h
      refine mm_iconst (pc := 73) (x := 0) dX6_isAtName_73 rfl ?_
      exact mm_zret (pc := 74) dX6_isAtName_74 rfl rfl (Nat.le_refl 0) (Nat.le_refl 0) ⟨_, rfl, rfl, hG, h⟩
    · have h := mm_ift hc h
      refine mm_iconst (pc := 69) (x := 1) dX6_isAtName_69 rfl ?_
      refine mm_goto (pc := 70) (tgt := 74) dX6_isAtName_70 (by decide) ?_
      exact mm_zret (pc := 74) dX6_isAtName_74 rfl rfl (Nat.le_refl 0) (Nat.le_refl 0) ⟨_, rfl, rfl, hG, h⟩
  · have h := mm_ift hc h
    refine mm_aload_n (pc := 8) (j := 0) dX6_isAtName_8 rfl rfl ?_
    refine mm_getI (pc := 9) (ci := 6) (N := 15) dX6_isAtName_9 fX6_52 (sh_Rd ha) rfl ?_
    refine mm_if_lt (pc := 12) (tgt := 36) dX6_isAtName_12 (by decide) (fun hc => ?_) (fun hc => ?_)
    · have h := mm_ift hc h
      exact h
    · have h := mm_iff hc h
      refine mm_aload_n (pc := 15) (j := 0) dX6_isAtName_15 rfl rfl ?_
      refine mm_getI (pc := 16) (ci := 6) (N := 15) dX6_isAtName_16 fX6_52 (sh_Rd ha) rfl ?_
      refine mm_bipush (pc := 19) (x := 24) dX6_isAtName_19 rfl ?_
      refine mm_icmp_ge (pc := 21) (tgt := 36) dX6_isAtName_21 (by decide) (fun hc => ?_) (fun hc => ?_)
      · have h := mm_ift hc h
        exact h
      · have h := mm_iff hc h
        refine mm_aload_n (pc := 24) (j := 0) dX6_isAtName_24 rfl rfl ?_
        refine mm_iconst (pc := 25) (x := 1) dX6_isAtName_25 rfl ?_
        refine mm_aload_n (pc := 26) (j := 0) dX6_isAtName_26 rfl rfl ?_
        refine mm_getI (pc := 27) (ci := 6) (N := 15) dX6_isAtName_27 fX6_49 (sh_Rd ha) rfl ?_
        refine mm_kVV (pc := 30) [.int 1, .int (M.1 a 4)] dX6_isAtName_30 kX6_79 rfl (sh_Rd ha) (Nat.le_of_ble_eq_true rfl) (Nat.le_of_ble_eq_true rfl) h (fun m30 hG h => ?_)
        refine mm_goto (pc := 33) (tgt := 62) dX6_isAtName_33 (by decide) ?_
        refine mm_aload_n (pc := 62) (j := 0) dX6_isAtName_62 rfl rfl ?_
        refine mm_getI (pc := 63) (ci := 6) (N := 15) dX6_isAtName_63 fX6_34 (sh_Rd ha) rfl ?_
        refine mm_if_ne (pc := 66) (tgt := 73) dX6_isAtName_66 (by decide) (fun hc => ?_) (fun hc => ?_)
        · have h := mm_iff hc h
          refine mm_iconst (pc := 73) (x := 0) dX6_isAtName_73 rfl ?_
          exact mm_zret (pc := 74) dX6_isAtName_74 rfl rfl (Nat.le_refl 0) (Nat.le_refl 0) ⟨_, rfl, rfl, hG, h⟩
        · have h := mm_ift hc h
          refine mm_iconst (pc := 69) (x := 1) dX6_isAtName_69 rfl ?_
          refine mm_goto (pc := 70) (tgt := 74) dX6_isAtName_70 (by decide) ?_
          exact mm_zret (pc := 74) dX6_isAtName_74 rfl rfl (Nat.le_refl 0) (Nat.le_refl 0) ⟨_, rfl, rfl, hG, h⟩
set_option maxRecDepth 100000 in
set_option maxHeartbeats 4000000 in
theorem lX6_isAtName_36 {d : Nat} {a : Nat} {M : mm_M} {K : Int32 → mm_M → Prop} (ha : a ∈ mm_Rds) (hG : mm_G M.2.2) (h : if ((M.1 a 2) - (M.1 a 4)) ≤ 6 then (if (M.1 a 8) = 0 then (K 1 M) else (K 0 M)) else (mm_CV mX6_refuse d [.ref a, .int 1, .int ((M.1 a 4) + 6)] M (fun m59 => if (m59.1 a 8) = 0 then (K 1 m59) else (K 0 m59)))) : jX6_isAtName_36 d a M K  := by
  unfold jX6_isAtName_36
  refine mm_aload_n (pc := 36) (j := 0) dX6_isAtName_36 rfl rfl ?_
  refine mm_getI (pc := 37) (ci := 6) (N := 15) dX6_isAtName_37 fX6_31 (sh_Rd ha) rfl ?_
  refine mm_aload_n (pc := 40) (j := 0) dX6_isAtName_40 rfl rfl ?_
  refine mm_getI (pc := 41) (ci := 6) (N := 15) dX6_isAtName_41 fX6_49 (sh_Rd ha) rfl ?_
  refine mm_isub (pc := 44) dX6_isAtName_44 ?_
  refine mm_bipush (pc := 45) (x := 6) dX6_isAtName_45 rfl ?_
  refine mm_icmp_le (pc := 47) (tgt := 62) dX6_isAtName_47 (by decide) (fun hc => ?_) (fun hc => ?_)
  · have h := mm_ift hc h
    refine mm_aload_n (pc := 62) (j := 0) dX6_isAtName_62 rfl rfl ?_
    refine mm_getI (pc := 63) (ci := 6) (N := 15) dX6_isAtName_63 fX6_34 (sh_Rd ha) rfl ?_
    refine mm_if_ne (pc := 66) (tgt := 73) dX6_isAtName_66 (by decide) (fun hc => ?_) (fun hc => ?_)
    · have h := mm_iff hc h
      refine mm_iconst (pc := 73) (x := 0) dX6_isAtName_73 rfl ?_
      exact mm_zret (pc := 74) dX6_isAtName_74 rfl rfl (Nat.le_refl 0) (Nat.le_refl 0) ⟨_, rfl, rfl, hG, h⟩
    · have h := mm_ift hc h
      refine mm_iconst (pc := 69) (x := 1) dX6_isAtName_69 rfl ?_
      refine mm_goto (pc := 70) (tgt := 74) dX6_isAtName_70 (by decide) ?_
      exact mm_zret (pc := 74) dX6_isAtName_74 rfl rfl (Nat.le_refl 0) (Nat.le_refl 0) ⟨_, rfl, rfl, hG, h⟩
  · have h := mm_iff hc h
    refine mm_aload_n (pc := 50) (j := 0) dX6_isAtName_50 rfl rfl ?_
    refine mm_iconst (pc := 51) (x := 1) dX6_isAtName_51 rfl ?_
    refine mm_aload_n (pc := 52) (j := 0) dX6_isAtName_52 rfl rfl ?_
    refine mm_getI (pc := 53) (ci := 6) (N := 15) dX6_isAtName_53 fX6_49 (sh_Rd ha) rfl ?_
    refine mm_bipush (pc := 56) (x := 6) dX6_isAtName_56 rfl ?_
    refine mm_iadd (pc := 58) dX6_isAtName_58 ?_
    refine mm_kVV (pc := 59) [.int 1, .int ((M.1 a 4) + 6)] dX6_isAtName_59 kX6_79 rfl (sh_Rd ha) (Nat.le_of_ble_eq_true rfl) (Nat.le_of_ble_eq_true rfl) h (fun m59 hG h => ?_)
    refine mm_aload_n (pc := 62) (j := 0) dX6_isAtName_62 rfl rfl ?_
    refine mm_getI (pc := 63) (ci := 6) (N := 15) dX6_isAtName_63 fX6_34 (sh_Rd ha) rfl ?_
    refine mm_if_ne (pc := 66) (tgt := 73) dX6_isAtName_66 (by decide) (fun hc => ?_) (fun hc => ?_)
    · have h := mm_iff hc h
      refine mm_iconst (pc := 73) (x := 0) dX6_isAtName_73 rfl ?_
      exact mm_zret (pc := 74) dX6_isAtName_74 rfl rfl (Nat.le_refl 0) (Nat.le_refl 0) ⟨_, rfl, rfl, hG, h⟩
    · have h := mm_ift hc h
      refine mm_iconst (pc := 69) (x := 1) dX6_isAtName_69 rfl ?_
      refine mm_goto (pc := 70) (tgt := 74) dX6_isAtName_70 (by decide) ?_
      exact mm_zret (pc := 74) dX6_isAtName_74 rfl rfl (Nat.le_refl 0) (Nat.le_refl 0) ⟨_, rfl, rfl, hG, h⟩
def jX6_test_6 (d : Nat) (a : Nat) (M : mm_M) (K : mm_M → Prop) (y1 : Int32) : Prop := mm_W mX6_test (d + 1) 0 0 6 [(0, .ref a), (1, .int y1)] [] mm_SH M 0 0 (mm_PV K)
set_option maxRecDepth 100000 in
set_option maxHeartbeats 4000000 in
theorem rX6_test {d : Nat} {a : Nat} {M : mm_M} {K : mm_M → Prop} (ha : a ∈ mm_Rds) (hG : mm_G M.2.2) (h : mm_CV mX6_both d [.ref a] M (fun m1 => jX6_test_6 d a m1 K 0)) : mm_CV mX6_test (d + 1) [.ref a] M K := by
  show mm_W mX6_test (d + 1) 0 0 0 [(0, .ref a)] [] mm_SH M 0 0 (mm_PV K)
  refine mm_aload_n (pc := 0) (j := 0) dX6_test_0 rfl rfl ?_
  refine mm_kVV (pc := 1) [] dX6_test_1 kX6_87 rfl (sh_Rd ha) (Nat.le_of_ble_eq_true rfl) (Nat.le_of_ble_eq_true rfl) h (fun m1 hG h => ?_)
  refine mm_iconst (pc := 4) (x := 0) dX6_test_4 rfl ?_
  refine mm_istore_n (pc := 5) (lv' := [(1, .int 0), (0, .ref a)]) dX6_test_5 rfl (by decide) rfl ?_
  exact mm_sub [1, 0] rfl h
set_option maxRecDepth 100000 in
set_option maxHeartbeats 4000000 in
theorem lX6_test_6 {d : Nat} {a : Nat} {M : mm_M} {K : mm_M → Prop} {y1 : Int32} (ha : a ∈ mm_Rds) (hG : mm_G M.2.2) (h : if 1600 ≤ y1 then (K M) else (mm_CI mX6_takeWord d [.ref a, .int 18] M (fun z16 m16 => if z16 = 0 then (K m16) else (mm_CV mX6_both d [.ref a] m16 (fun m23 => mm_CV mX6_emit d [.ref a, .int (-9)] m23 (fun m29 => jX6_test_6 d a m29 K (y1 + 1))))))) : jX6_test_6 d a M K y1 := by
  unfold jX6_test_6
  refine mm_iload_n (pc := 6) (j := 1) dX6_test_6 rfl rfl ?_
  refine mm_sipush (pc := 7) (x := 1600) dX6_test_7 rfl ?_
  refine mm_icmp_ge (pc := 10) (tgt := 38) dX6_test_10 (by decide) (fun hc => ?_) (fun hc => ?_)
  · have h := mm_ift hc h
    exact mm_vret (pc := 38) dX6_test_38 rfl (Nat.le_refl 0) (Nat.le_refl 0) ⟨rfl, rfl, hG, h⟩
  · have h := mm_iff hc h
    refine mm_aload_n (pc := 13) (j := 0) dX6_test_13 rfl rfl ?_
    refine mm_bipush (pc := 14) (x := 18) dX6_test_14 rfl ?_
    refine mm_kVI (pc := 16) [.int 18] dX6_test_16 kX6_75 rfl (sh_Rd ha) (Nat.le_of_ble_eq_true rfl) (Nat.le_of_ble_eq_true rfl) h (fun z16 m16 hG h => ?_)
    refine mm_if_eq (pc := 19) (tgt := 38) dX6_test_19 (by decide) (fun hc => ?_) (fun hc => ?_)
    · have h := mm_ift hc h
      exact mm_vret (pc := 38) dX6_test_38 rfl (Nat.le_refl 0) (Nat.le_refl 0) ⟨rfl, rfl, hG, h⟩
    · have h := mm_iff hc h
      refine mm_aload_n (pc := 22) (j := 0) dX6_test_22 rfl rfl ?_
      refine mm_kVV (pc := 23) [] dX6_test_23 kX6_87 rfl (sh_Rd ha) (Nat.le_of_ble_eq_true rfl) (Nat.le_of_ble_eq_true rfl) h (fun m23 hG h => ?_)
      refine mm_aload_n (pc := 26) (j := 0) dX6_test_26 rfl rfl ?_
      refine mm_bipush (pc := 27) (x := (-9)) dX6_test_27 rfl ?_
      refine mm_kVV (pc := 29) [.int (-9)] dX6_test_29 kX6_92 rfl (sh_Rd ha) (Nat.le_of_ble_eq_true rfl) (Nat.le_of_ble_eq_true rfl) h (fun m29 hG h => ?_)
      refine mm_iinc (pc := 32) (j := 1) (v := y1 + 1) (lv' := [(1, .int (y1 + 1)), (0, .ref a)]) dX6_test_32 rfl rfl (by decide) rfl ?_
      refine mm_goto (pc := 35) (tgt := 6) dX6_test_35 (by decide) ?_
      exact mm_sub [1, 0] rfl h
def jX6_sum_6 (d : Nat) (a : Nat) (M : mm_M) (K : mm_M → Prop) (y1 : Int32) : Prop := mm_W mX6_sum (d + 1) 0 0 6 [(0, .ref a), (1, .int y1)] [] mm_SH M 0 0 (mm_PV K)
def jX6_sum_38 (d : Nat) (a : Nat) (M : mm_M) (K : mm_M → Prop) (y1 : Int32) : Prop := mm_W mX6_sum (d + 1) 0 0 38 [(0, .ref a), (1, .int y1)] [] mm_SH M 0 0 (mm_PV K)
set_option maxRecDepth 100000 in
set_option maxHeartbeats 4000000 in
theorem rX6_sum {d : Nat} {a : Nat} {M : mm_M} {K : mm_M → Prop} (ha : a ∈ mm_Rds) (hG : mm_G M.2.2) (h : mm_CV mX6_product d [.ref a] M (fun m1 => jX6_sum_6 d a m1 K 0)) : mm_CV mX6_sum (d + 1) [.ref a] M K := by
  show mm_W mX6_sum (d + 1) 0 0 0 [(0, .ref a)] [] mm_SH M 0 0 (mm_PV K)
  refine mm_aload_n (pc := 0) (j := 0) dX6_sum_0 rfl rfl ?_
  refine mm_kVV (pc := 1) [] dX6_sum_1 kX6_96 rfl (sh_Rd ha) (Nat.le_of_ble_eq_true rfl) (Nat.le_of_ble_eq_true rfl) h (fun m1 hG h => ?_)
  refine mm_iconst (pc := 4) (x := 0) dX6_sum_4 rfl ?_
  refine mm_istore_n (pc := 5) (lv' := [(1, .int 0), (0, .ref a)]) dX6_sum_5 rfl (by decide) rfl ?_
  exact mm_sub [1, 0] rfl h
set_option maxRecDepth 100000 in
set_option maxHeartbeats 4000000 in
theorem lX6_sum_6 {d : Nat} {a : Nat} {M : mm_M} {K : mm_M → Prop} {y1 : Int32} (ha : a ∈ mm_Rds) (hG : mm_G M.2.2) (h : if 1600 ≤ y1 then (K M) else (if (M.1 a 8) = 0 then (mm_CI mX6_isSign d [.ref a, .int 43] M (fun z23 m23 => if z23 = 0 then (mm_CI mX6_isSign d [.ref a, .int 45] m23 (fun z32 m32 => if z32 = 0 then (K m32) else (jX6_sum_38 d a m32 K y1))) else (jX6_sum_38 d a m23 K y1))) else (K M))) : jX6_sum_6 d a M K y1 := by
  unfold jX6_sum_6
  refine mm_iload_n (pc := 6) (j := 1) dX6_sum_6 rfl rfl ?_
  refine mm_sipush (pc := 7) (x := 1600) dX6_sum_7 rfl ?_
  refine mm_icmp_ge (pc := 10) (tgt := 73) dX6_sum_10 (by decide) (fun hc => ?_) (fun hc => ?_)
  · have h := mm_ift hc h
    exact mm_vret (pc := 73) dX6_sum_73 rfl (Nat.le_refl 0) (Nat.le_refl 0) ⟨rfl, rfl, hG, h⟩
  · have h := mm_iff hc h
    refine mm_aload_n (pc := 13) (j := 0) dX6_sum_13 rfl rfl ?_
    refine mm_getI (pc := 14) (ci := 6) (N := 15) dX6_sum_14 fX6_34 (sh_Rd ha) rfl ?_
    refine mm_if_ne (pc := 17) (tgt := 73) dX6_sum_17 (by decide) (fun hc => ?_) (fun hc => ?_)
    · have h := mm_iff hc h
      exact mm_vret (pc := 73) dX6_sum_73 rfl (Nat.le_refl 0) (Nat.le_refl 0) ⟨rfl, rfl, hG, h⟩
    · have h := mm_ift hc h
      refine mm_aload_n (pc := 20) (j := 0) dX6_sum_20 rfl rfl ?_
      refine mm_bipush (pc := 21) (x := 43) dX6_sum_21 rfl ?_
      refine mm_kVI (pc := 23) [.int 43] dX6_sum_23 kX6_83 rfl (sh_Rd ha) (Nat.le_of_ble_eq_true rfl) (Nat.le_of_ble_eq_true rfl) h (fun z23 m23 hG h => ?_)
      refine mm_if_ne (pc := 26) (tgt := 38) dX6_sum_26 (by decide) (fun hc => ?_) (fun hc => ?_)
      · have h := mm_iff hc h
        exact h
      · have h := mm_ift hc h
        refine mm_aload_n (pc := 29) (j := 0) dX6_sum_29 rfl rfl ?_
        refine mm_bipush (pc := 30) (x := 45) dX6_sum_30 rfl ?_
        refine mm_kVI (pc := 32) [.int 45] dX6_sum_32 kX6_83 rfl (sh_Rd ha) (Nat.le_of_ble_eq_true rfl) (Nat.le_of_ble_eq_true rfl) h (fun z32 m32 hG h => ?_)
        refine mm_if_eq (pc := 35) (tgt := 73) dX6_sum_35 (by decide) (fun hc => ?_) (fun hc => ?_)
        · have h := mm_ift hc h
          exact mm_vret (pc := 73) dX6_sum_73 rfl (Nat.le_refl 0) (Nat.le_refl 0) ⟨rfl, rfl, hG, h⟩
        · have h := mm_iff hc h
          exact h
set_option maxRecDepth 100000 in
set_option maxHeartbeats 4000000 in
theorem lX6_sum_38 {d : Nat} {a : Nat} {M : mm_M} {K : mm_M → Prop} {y1 : Int32} (ha : a ∈ mm_Rds) (hG : mm_G M.2.2) (h : mm_CI mX6_isSign d [.ref a, .int 43] M (fun z41 m41 => if z41 = 0 then (mm_CV mX6_next d [.ref a] m41 (fun m55 => mm_CV mX6_product d [.ref a] m55 (fun m59 => mm_CV mX6_emit d [.ref a, .int (-2)] m59 (fun m64 => jX6_sum_6 d a m64 K (y1 + 1))))) else (mm_CV mX6_next d [.ref a] m41 (fun m55 => mm_CV mX6_product d [.ref a] m55 (fun m59 => mm_CV mX6_emit d [.ref a, .int (-1)] m59 (fun m64 => jX6_sum_6 d a m64 K (y1 + 1))))))) : jX6_sum_38 d a M K y1 := by
  unfold jX6_sum_38
  refine mm_aload_n (pc := 38) (j := 0) dX6_sum_38 rfl rfl ?_
  refine mm_bipush (pc := 39) (x := 43) dX6_sum_39 rfl ?_
  refine mm_kVI (pc := 41) [.int 43] dX6_sum_41 kX6_83 rfl (sh_Rd ha) (Nat.le_of_ble_eq_true rfl) (Nat.le_of_ble_eq_true rfl) h (fun z41 m41 hG h => ?_)
  refine mm_if_eq (pc := 44) (tgt := 51) dX6_sum_44 (by decide) (fun hc => ?_) (fun hc => ?_)
  · have h := mm_ift hc h
    refine mm_bipush (pc := 51) (x := (-2)) dX6_sum_51 rfl ?_
    refine mm_istore_n (pc := 53) (lv' := [(2, .int (-2)), (0, .ref a), (1, .int y1)]) dX6_sum_53 rfl (by decide) rfl ?_
    refine mm_aload_n (pc := 54) (j := 1) dX6_sum_54 rfl rfl ?_
    refine mm_kVV (pc := 55) [] dX6_sum_55 kX6_43 rfl (sh_Rd ha) (Nat.le_of_ble_eq_true rfl) (Nat.le_of_ble_eq_true rfl) h (fun m55 hG h => ?_)
    refine mm_aload_n (pc := 58) (j := 1) dX6_sum_58 rfl rfl ?_
    refine mm_kVV (pc := 59) [] dX6_sum_59 kX6_96 rfl (sh_Rd ha) (Nat.le_of_ble_eq_true rfl) (Nat.le_of_ble_eq_true rfl) h (fun m59 hG h => ?_)
    refine mm_aload_n (pc := 62) (j := 1) dX6_sum_62 rfl rfl ?_
    refine mm_iload_n (pc := 63) (j := 0) dX6_sum_63 rfl rfl ?_
    refine mm_kVV (pc := 64) [.int (-2)] dX6_sum_64 kX6_92 rfl (sh_Rd ha) (Nat.le_of_ble_eq_true rfl) (Nat.le_of_ble_eq_true rfl) h (fun m64 hG h => ?_)
    refine mm_iinc (pc := 67) (j := 2) (v := y1 + 1) (lv' := [(1, .int (y1 + 1)), (2, .int (-2)), (0, .ref a)]) dX6_sum_67 rfl rfl (by decide) rfl ?_
    refine mm_goto (pc := 70) (tgt := 6) dX6_sum_70 (by decide) ?_
    exact mm_sub [2, 0] rfl h
  · have h := mm_iff hc h
    refine mm_iconst (pc := 47) (x := (-1)) dX6_sum_47 rfl ?_
    refine mm_goto (pc := 48) (tgt := 53) dX6_sum_48 (by decide) ?_
    refine mm_istore_n (pc := 53) (lv' := [(2, .int (-1)), (0, .ref a), (1, .int y1)]) dX6_sum_53 rfl (by decide) rfl ?_
    refine mm_aload_n (pc := 54) (j := 1) dX6_sum_54 rfl rfl ?_
    refine mm_kVV (pc := 55) [] dX6_sum_55 kX6_43 rfl (sh_Rd ha) (Nat.le_of_ble_eq_true rfl) (Nat.le_of_ble_eq_true rfl) h (fun m55 hG h => ?_)
    refine mm_aload_n (pc := 58) (j := 1) dX6_sum_58 rfl rfl ?_
    refine mm_kVV (pc := 59) [] dX6_sum_59 kX6_96 rfl (sh_Rd ha) (Nat.le_of_ble_eq_true rfl) (Nat.le_of_ble_eq_true rfl) h (fun m59 hG h => ?_)
    refine mm_aload_n (pc := 62) (j := 1) dX6_sum_62 rfl rfl ?_
    refine mm_iload_n (pc := 63) (j := 0) dX6_sum_63 rfl rfl ?_
    refine mm_kVV (pc := 64) [.int (-1)] dX6_sum_64 kX6_92 rfl (sh_Rd ha) (Nat.le_of_ble_eq_true rfl) (Nat.le_of_ble_eq_true rfl) h (fun m64 hG h => ?_)
    refine mm_iinc (pc := 67) (j := 2) (v := y1 + 1) (lv' := [(1, .int (y1 + 1)), (2, .int (-1)), (0, .ref a)]) dX6_sum_67 rfl rfl (by decide) rfl ?_
    refine mm_goto (pc := 70) (tgt := 6) dX6_sum_70 (by decide) ?_
    exact mm_sub [2, 0] rfl h
def jX6_both_6 (d : Nat) (a : Nat) (M : mm_M) (K : mm_M → Prop) (y1 : Int32) : Prop := mm_W mX6_both (d + 1) 0 0 6 [(0, .ref a), (1, .int y1)] [] mm_SH M 0 0 (mm_PV K)
set_option maxRecDepth 100000 in
set_option maxHeartbeats 4000000 in
theorem rX6_both {d : Nat} {a : Nat} {M : mm_M} {K : mm_M → Prop} (ha : a ∈ mm_Rds) (hG : mm_G M.2.2) (h : mm_CV mX6_fact d [.ref a] M (fun m1 => jX6_both_6 d a m1 K 0)) : mm_CV mX6_both (d + 1) [.ref a] M K := by
  show mm_W mX6_both (d + 1) 0 0 0 [(0, .ref a)] [] mm_SH M 0 0 (mm_PV K)
  refine mm_aload_n (pc := 0) (j := 0) dX6_both_0 rfl rfl ?_
  refine mm_kVV (pc := 1) [] dX6_both_1 kX6_99 rfl (sh_Rd ha) (Nat.le_of_ble_eq_true rfl) (Nat.le_of_ble_eq_true rfl) h (fun m1 hG h => ?_)
  refine mm_iconst (pc := 4) (x := 0) dX6_both_4 rfl ?_
  refine mm_istore_n (pc := 5) (lv' := [(1, .int 0), (0, .ref a)]) dX6_both_5 rfl (by decide) rfl ?_
  exact mm_sub [1, 0] rfl h
set_option maxRecDepth 100000 in
set_option maxHeartbeats 4000000 in
theorem lX6_both_6 {d : Nat} {a : Nat} {M : mm_M} {K : mm_M → Prop} {y1 : Int32} (ha : a ∈ mm_Rds) (hG : mm_G M.2.2) (h : if 1600 ≤ y1 then (K M) else (mm_CI mX6_takeWord d [.ref a, .int 19] M (fun z16 m16 => if z16 = 0 then (K m16) else (mm_CV mX6_fact d [.ref a] m16 (fun m23 => mm_CV mX6_emit d [.ref a, .int (-8)] m23 (fun m29 => jX6_both_6 d a m29 K (y1 + 1))))))) : jX6_both_6 d a M K y1 := by
  unfold jX6_both_6
  refine mm_iload_n (pc := 6) (j := 1) dX6_both_6 rfl rfl ?_
  refine mm_sipush (pc := 7) (x := 1600) dX6_both_7 rfl ?_
  refine mm_icmp_ge (pc := 10) (tgt := 38) dX6_both_10 (by decide) (fun hc => ?_) (fun hc => ?_)
  · have h := mm_ift hc h
    exact mm_vret (pc := 38) dX6_both_38 rfl (Nat.le_refl 0) (Nat.le_refl 0) ⟨rfl, rfl, hG, h⟩
  · have h := mm_iff hc h
    refine mm_aload_n (pc := 13) (j := 0) dX6_both_13 rfl rfl ?_
    refine mm_bipush (pc := 14) (x := 19) dX6_both_14 rfl ?_
    refine mm_kVI (pc := 16) [.int 19] dX6_both_16 kX6_75 rfl (sh_Rd ha) (Nat.le_of_ble_eq_true rfl) (Nat.le_of_ble_eq_true rfl) h (fun z16 m16 hG h => ?_)
    refine mm_if_eq (pc := 19) (tgt := 38) dX6_both_19 (by decide) (fun hc => ?_) (fun hc => ?_)
    · have h := mm_ift hc h
      exact mm_vret (pc := 38) dX6_both_38 rfl (Nat.le_refl 0) (Nat.le_refl 0) ⟨rfl, rfl, hG, h⟩
    · have h := mm_iff hc h
      refine mm_aload_n (pc := 22) (j := 0) dX6_both_22 rfl rfl ?_
      refine mm_kVV (pc := 23) [] dX6_both_23 kX6_99 rfl (sh_Rd ha) (Nat.le_of_ble_eq_true rfl) (Nat.le_of_ble_eq_true rfl) h (fun m23 hG h => ?_)
      refine mm_aload_n (pc := 26) (j := 0) dX6_both_26 rfl rfl ?_
      refine mm_bipush (pc := 27) (x := (-8)) dX6_both_27 rfl ?_
      refine mm_kVV (pc := 29) [.int (-8)] dX6_both_29 kX6_92 rfl (sh_Rd ha) (Nat.le_of_ble_eq_true rfl) (Nat.le_of_ble_eq_true rfl) h (fun m29 hG h => ?_)
      refine mm_iinc (pc := 32) (j := 1) (v := y1 + 1) (lv' := [(1, .int (y1 + 1)), (0, .ref a)]) dX6_both_32 rfl rfl (by decide) rfl ?_
      refine mm_goto (pc := 35) (tgt := 6) dX6_both_35 (by decide) ?_
      exact mm_sub [1, 0] rfl h
set_option maxRecDepth 100000 in
set_option maxHeartbeats 4000000 in
theorem rX6_fact {d : Nat} {a : Nat} {M : mm_M} {K : mm_M → Prop} (ha : a ∈ mm_Rds) (hG : mm_G M.2.2) (h : if (M.1 a 8) = 0 then (if (M.1 a 5) = 20 then (mm_CV mX6_openNext d [.ref a] M (fun m18 => mm_CV mX6_fact d [.ref a] m18 (fun m22 => mm_CV mX6_emit d [.ref a, .int (-12)] m22 (fun m28 => K (mm_uI m28 a 10 ((m28.1 a 10) - 1)))))) else (mm_CI mX6_isSign d [.ref a, .int 91] M (fun z47 m47 => if z47 = 0 then (mm_CI mX6_takeWord d [.ref a, .int 21] m47 (fun z90 m90 => if z90 = 0 then (mm_CV mX6_sum d [.ref a] m90 (fun m105 => mm_CI mX6_comparing d [.ref a] m105 (fun z109 m109 => mm_CV mX6_sumIfFine d [.ref a] m109 (fun m114 => mm_CV mX6_emit d [.ref a, .int z109] m114 (fun m119 => K m119))))) else (mm_CV mX6_emit d [.ref a, .int 1] m90 (fun m98 => K m98)))) else (mm_CV mX6_openNext d [.ref a] m47 (fun m54 => if (m54.1 a 8) = 0 then (mm_CV mX6_test d [.ref a] m54 (fun m65 => mm_CV mX6_expectSign d [.ref a, .int 93] m65 (fun m71 => K (mm_uI m71 a 10 ((m71.1 a 10) - 1))))) else (mm_CV mX6_expectSign d [.ref a, .int 93] m54 (fun m71 => K (mm_uI m71 a 10 ((m71.1 a 10) - 1))))))))) else (K M)) : mm_CV mX6_fact (d + 1) [.ref a] M K := by
  show mm_W mX6_fact (d + 1) 0 0 0 [(0, .ref a)] [] mm_SH M 0 0 (mm_PV K)
  refine mm_aload_n (pc := 0) (j := 0) dX6_fact_0 rfl rfl ?_
  refine mm_getI (pc := 1) (ci := 6) (N := 15) dX6_fact_1 fX6_34 (sh_Rd ha) rfl ?_
  refine mm_if_eq (pc := 4) (tgt := 8) dX6_fact_4 (by decide) (fun hc => ?_) (fun hc => ?_)
  · have h := mm_ift hc h
    refine mm_aload_n (pc := 8) (j := 0) dX6_fact_8 rfl rfl ?_
    refine mm_getI (pc := 9) (ci := 6) (N := 15) dX6_fact_9 fX6_52 (sh_Rd ha) rfl ?_
    refine mm_bipush (pc := 12) (x := 20) dX6_fact_12 rfl ?_
    refine mm_icmp_ne (pc := 14) (tgt := 44) dX6_fact_14 (by decide) (fun hc => ?_) (fun hc => ?_)
    · have h := mm_iff hc h
      refine mm_aload_n (pc := 44) (j := 0) dX6_fact_44 rfl rfl ?_
      refine mm_bipush (pc := 45) (x := 91) dX6_fact_45 rfl ?_
      refine mm_kVI (pc := 47) [.int 91] dX6_fact_47 kX6_83 rfl (sh_Rd ha) (Nat.le_of_ble_eq_true rfl) (Nat.le_of_ble_eq_true rfl) h (fun z47 m47 hG h => ?_)
      refine mm_if_eq (pc := 50) (tgt := 87) dX6_fact_50 (by decide) (fun hc => ?_) (fun hc => ?_)
      · have h := mm_ift hc h
        refine mm_aload_n (pc := 87) (j := 0) dX6_fact_87 rfl rfl ?_
        refine mm_bipush (pc := 88) (x := 21) dX6_fact_88 rfl ?_
        refine mm_kVI (pc := 90) [.int 21] dX6_fact_90 kX6_75 rfl (sh_Rd ha) (Nat.le_of_ble_eq_true rfl) (Nat.le_of_ble_eq_true rfl) h (fun z90 m90 hG h => ?_)
        refine mm_if_eq (pc := 93) (tgt := 104) dX6_fact_93 (by decide) (fun hc => ?_) (fun hc => ?_)
        · have h := mm_ift hc h
          refine mm_aload_n (pc := 104) (j := 0) dX6_fact_104 rfl rfl ?_
          refine mm_kVV (pc := 105) [] dX6_fact_105 kX6_112 rfl (sh_Rd ha) (Nat.le_of_ble_eq_true rfl) (Nat.le_of_ble_eq_true rfl) h (fun m105 hG h => ?_)
          refine mm_aload_n (pc := 108) (j := 0) dX6_fact_108 rfl rfl ?_
          refine mm_kVI (pc := 109) [] dX6_fact_109 kX6_115 rfl (sh_Rd ha) (Nat.le_of_ble_eq_true rfl) (Nat.le_of_ble_eq_true rfl) h (fun z109 m109 hG h => ?_)
          refine mm_istore_n (pc := 112) (lv' := [(1, .int z109), (0, .ref a)]) dX6_fact_112 rfl (by decide) rfl ?_
          refine mm_aload_n (pc := 113) (j := 1) dX6_fact_113 rfl rfl ?_
          refine mm_kVV (pc := 114) [] dX6_fact_114 kX6_118 rfl (sh_Rd ha) (Nat.le_of_ble_eq_true rfl) (Nat.le_of_ble_eq_true rfl) h (fun m114 hG h => ?_)
          refine mm_aload_n (pc := 117) (j := 1) dX6_fact_117 rfl rfl ?_
          refine mm_iload_n (pc := 118) (j := 0) dX6_fact_118 rfl rfl ?_
          refine mm_kVV (pc := 119) [.int z109] dX6_fact_119 kX6_92 rfl (sh_Rd ha) (Nat.le_of_ble_eq_true rfl) (Nat.le_of_ble_eq_true rfl) h (fun m119 hG h => ?_)
          exact mm_vret (pc := 122) dX6_fact_122 rfl (Nat.le_refl 0) (Nat.le_refl 0) ⟨rfl, rfl, hG, h⟩
        · have h := mm_iff hc h
          refine mm_aload_n (pc := 96) (j := 0) dX6_fact_96 rfl rfl ?_
          refine mm_iconst (pc := 97) (x := 1) dX6_fact_97 rfl ?_
          refine mm_kVV (pc := 98) [.int 1] dX6_fact_98 kX6_92 rfl (sh_Rd ha) (Nat.le_of_ble_eq_true rfl) (Nat.le_of_ble_eq_true rfl) h (fun m98 hG h => ?_)
          refine mm_goto (pc := 101) (tgt := 122) dX6_fact_101 (by decide) ?_
          exact mm_vret (pc := 122) dX6_fact_122 rfl (Nat.le_refl 0) (Nat.le_refl 0) ⟨rfl, rfl, hG, h⟩
      · have h := mm_iff hc h
        refine mm_aload_n (pc := 53) (j := 0) dX6_fact_53 rfl rfl ?_
        refine mm_kVV (pc := 54) [] dX6_fact_54 kX6_102 rfl (sh_Rd ha) (Nat.le_of_ble_eq_true rfl) (Nat.le_of_ble_eq_true rfl) h (fun m54 hG h => ?_)
        refine mm_aload_n (pc := 57) (j := 0) dX6_fact_57 rfl rfl ?_
        refine mm_getI (pc := 58) (ci := 6) (N := 15) dX6_fact_58 fX6_34 (sh_Rd ha) rfl ?_
        refine mm_if_ne (pc := 61) (tgt := 68) dX6_fact_61 (by decide) (fun hc => ?_) (fun hc => ?_)
        · have h := mm_iff hc h
          refine mm_aload_n (pc := 68) (j := 0) dX6_fact_68 rfl rfl ?_
          refine mm_bipush (pc := 69) (x := 93) dX6_fact_69 rfl ?_
          refine mm_kVV (pc := 71) [.int 93] dX6_fact_71 kX6_108 rfl (sh_Rd ha) (Nat.le_of_ble_eq_true rfl) (Nat.le_of_ble_eq_true rfl) h (fun m71 hG h => ?_)
          refine mm_aload_n (pc := 74) (j := 0) dX6_fact_74 rfl rfl ?_
          refine mm_dup (pc := 75) dX6_fact_75 rfl ?_
          refine mm_getI (pc := 76) (ci := 6) (N := 15) dX6_fact_76 fX6_40 (sh_Rd ha) rfl ?_
          refine mm_iconst (pc := 79) (x := 1) dX6_fact_79 rfl ?_
          refine mm_isub (pc := 80) dX6_fact_80 ?_
          refine mm_putI (pc := 81) (ci := 6) (N := 15) dX6_fact_81 fX6_40 (sh_Rd ha) (by decide +kernel) rfl rfl rfl ?_
          refine mm_goto (pc := 84) (tgt := 122) dX6_fact_84 (by decide) ?_
          exact mm_vret (pc := 122) dX6_fact_122 rfl (Nat.le_refl 0) (Nat.le_refl 0) ⟨rfl, rfl, hG, h⟩
        · have h := mm_ift hc h
          refine mm_aload_n (pc := 64) (j := 0) dX6_fact_64 rfl rfl ?_
          refine mm_kVV (pc := 65) [] dX6_fact_65 kX6_105 rfl (sh_Rd ha) (Nat.le_of_ble_eq_true rfl) (Nat.le_of_ble_eq_true rfl) h (fun m65 hG h => ?_)
          refine mm_aload_n (pc := 68) (j := 0) dX6_fact_68 rfl rfl ?_
          refine mm_bipush (pc := 69) (x := 93) dX6_fact_69 rfl ?_
          refine mm_kVV (pc := 71) [.int 93] dX6_fact_71 kX6_108 rfl (sh_Rd ha) (Nat.le_of_ble_eq_true rfl) (Nat.le_of_ble_eq_true rfl) h (fun m71 hG h => ?_)
          refine mm_aload_n (pc := 74) (j := 0) dX6_fact_74 rfl rfl ?_
          refine mm_dup (pc := 75) dX6_fact_75 rfl ?_
          refine mm_getI (pc := 76) (ci := 6) (N := 15) dX6_fact_76 fX6_40 (sh_Rd ha) rfl ?_
          refine mm_iconst (pc := 79) (x := 1) dX6_fact_79 rfl ?_
          refine mm_isub (pc := 80) dX6_fact_80 ?_
          refine mm_putI (pc := 81) (ci := 6) (N := 15) dX6_fact_81 fX6_40 (sh_Rd ha) (by decide +kernel) rfl rfl rfl ?_
          refine mm_goto (pc := 84) (tgt := 122) dX6_fact_84 (by decide) ?_
          exact mm_vret (pc := 122) dX6_fact_122 rfl (Nat.le_refl 0) (Nat.le_refl 0) ⟨rfl, rfl, hG, h⟩
    · have h := mm_ift hc h
      refine mm_aload_n (pc := 17) (j := 0) dX6_fact_17 rfl rfl ?_
      refine mm_kVV (pc := 18) [] dX6_fact_18 kX6_102 rfl (sh_Rd ha) (Nat.le_of_ble_eq_true rfl) (Nat.le_of_ble_eq_true rfl) h (fun m18 hG h => ?_)
      refine mm_aload_n (pc := 21) (j := 0) dX6_fact_21 rfl rfl ?_
      refine mm_kVV (pc := 22) [] dX6_fact_22 kX6_99 rfl (sh_Rd ha) (Nat.le_of_ble_eq_true rfl) (Nat.le_of_ble_eq_true rfl) h (fun m22 hG h => ?_)
      refine mm_aload_n (pc := 25) (j := 0) dX6_fact_25 rfl rfl ?_
      refine mm_bipush (pc := 26) (x := (-12)) dX6_fact_26 rfl ?_
      refine mm_kVV (pc := 28) [.int (-12)] dX6_fact_28 kX6_92 rfl (sh_Rd ha) (Nat.le_of_ble_eq_true rfl) (Nat.le_of_ble_eq_true rfl) h (fun m28 hG h => ?_)
      refine mm_aload_n (pc := 31) (j := 0) dX6_fact_31 rfl rfl ?_
      refine mm_dup (pc := 32) dX6_fact_32 rfl ?_
      refine mm_getI (pc := 33) (ci := 6) (N := 15) dX6_fact_33 fX6_40 (sh_Rd ha) rfl ?_
      refine mm_iconst (pc := 36) (x := 1) dX6_fact_36 rfl ?_
      refine mm_isub (pc := 37) dX6_fact_37 ?_
      refine mm_putI (pc := 38) (ci := 6) (N := 15) dX6_fact_38 fX6_40 (sh_Rd ha) (by decide +kernel) rfl rfl rfl ?_
      refine mm_goto (pc := 41) (tgt := 122) dX6_fact_41 (by decide) ?_
      exact mm_vret (pc := 122) dX6_fact_122 rfl (Nat.le_refl 0) (Nat.le_refl 0) ⟨rfl, rfl, hG, h⟩
  · have h := mm_iff hc h
    exact mm_vret (pc := 7) dX6_fact_7 rfl (Nat.le_refl 0) (Nat.le_refl 0) ⟨rfl, rfl, hG, h⟩
def jX6_comparing_30 (d : Nat) (a : Nat) (M : mm_M) (K : Int32 → mm_M → Prop) (u0 : Int32) : Prop := mm_W mX6_comparing (d + 1) 0 0 30 [(0, .ref a)] [.int u0] mm_SH M 0 0 (mm_PI K)
set_option maxRecDepth 100000 in
set_option maxHeartbeats 4000000 in
theorem rX6_comparing {d : Nat} {a : Nat} {M : mm_M} {K : Int32 → mm_M → Prop} (ha : a ∈ mm_Rds) (hG : mm_G M.2.2) (h : mm_CI mX6_isSign d [.ref a, .int 60] M (fun z3 m3 => if z3 = 0 then (mm_CI mX6_isSign d [.ref a, .int 62] m3 (fun z17 m17 => if z17 = 0 then (jX6_comparing_30 d a m17 K (-7)) else (jX6_comparing_30 d a m17 K (-6)))) else (jX6_comparing_30 d a m3 K (-5)))) : mm_CI mX6_comparing (d + 1) [.ref a] M K := by
  show mm_W mX6_comparing (d + 1) 0 0 0 [(0, .ref a)] [] mm_SH M 0 0 (mm_PI K)
  refine mm_aload_n (pc := 0) (j := 0) dX6_comparing_0 rfl rfl ?_
  refine mm_bipush (pc := 1) (x := 60) dX6_comparing_1 rfl ?_
  refine mm_kVI (pc := 3) [.int 60] dX6_comparing_3 kX6_83 rfl (sh_Rd ha) (Nat.le_of_ble_eq_true rfl) (Nat.le_of_ble_eq_true rfl) h (fun z3 m3 hG h => ?_)
  refine mm_if_eq (pc := 6) (tgt := 14) dX6_comparing_6 (by decide) (fun hc => ?_) (fun hc => ?_)
  · have h := mm_ift hc h
    refine mm_aload_n (pc := 14) (j := 0) dX6_comparing_14 rfl rfl ?_
    refine mm_bipush (pc := 15) (x := 62) dX6_comparing_15 rfl ?_
    refine mm_kVI (pc := 17) [.int 62] dX6_comparing_17 kX6_83 rfl (sh_Rd ha) (Nat.le_of_ble_eq_true rfl) (Nat.le_of_ble_eq_true rfl) h (fun z17 m17 hG h => ?_)
    refine mm_if_eq (pc := 20) (tgt := 28) dX6_comparing_20 (by decide) (fun hc => ?_) (fun hc => ?_)
    · have h := mm_ift hc h
      refine mm_bipush (pc := 28) (x := (-7)) dX6_comparing_28 rfl ?_
      exact h
    · have h := mm_iff hc h
      refine mm_bipush (pc := 23) (x := (-6)) dX6_comparing_23 rfl ?_
      refine mm_goto (pc := 25) (tgt := 30) dX6_comparing_25 (by decide) ?_
      exact h
  · have h := mm_iff hc h
    refine mm_bipush (pc := 9) (x := (-5)) dX6_comparing_9 rfl ?_
    refine mm_goto (pc := 11) (tgt := 30) dX6_comparing_11 (by decide) ?_
    exact h
set_option maxRecDepth 100000 in
set_option maxHeartbeats 4000000 in
theorem lX6_comparing_30 {d : Nat} {a : Nat} {M : mm_M} {K : Int32 → mm_M → Prop} {u0 : Int32} (ha : a ∈ mm_Rds) (hG : mm_G M.2.2) (h : if u0 = (-7) then (mm_CV mX6_expectSign d [.ref a, .int 61] M (fun m40 => K u0 m40)) else (if (M.1 a 8) = 0 then (mm_CV mX6_next d [.ref a] M (fun m54 => K u0 m54)) else (K u0 M))) : jX6_comparing_30 d a M K u0 := by
  unfold jX6_comparing_30
  refine mm_istore_n (pc := 30) (lv' := [(1, .int u0), (0, .ref a)]) dX6_comparing_30 rfl (by decide) rfl ?_
  refine mm_iload_n (pc := 31) (j := 0) dX6_comparing_31 rfl rfl ?_
  refine mm_bipush (pc := 32) (x := (-7)) dX6_comparing_32 rfl ?_
  refine mm_icmp_ne (pc := 34) (tgt := 46) dX6_comparing_34 (by decide) (fun hc => ?_) (fun hc => ?_)
  · have h := mm_iff hc h
    refine mm_aload_n (pc := 46) (j := 1) dX6_comparing_46 rfl rfl ?_
    refine mm_getI (pc := 47) (ci := 6) (N := 15) dX6_comparing_47 fX6_34 (sh_Rd ha) rfl ?_
    refine mm_if_ne (pc := 50) (tgt := 57) dX6_comparing_50 (by decide) (fun hc => ?_) (fun hc => ?_)
    · have h := mm_iff hc h
      refine mm_iload_n (pc := 57) (j := 0) dX6_comparing_57 rfl rfl ?_
      exact mm_iret (pc := 58) dX6_comparing_58 rfl (Nat.le_refl 0) (Nat.le_refl 0) ⟨_, rfl, rfl, hG, h⟩
    · have h := mm_ift hc h
      refine mm_aload_n (pc := 53) (j := 1) dX6_comparing_53 rfl rfl ?_
      refine mm_kVV (pc := 54) [] dX6_comparing_54 kX6_43 rfl (sh_Rd ha) (Nat.le_of_ble_eq_true rfl) (Nat.le_of_ble_eq_true rfl) h (fun m54 hG h => ?_)
      refine mm_iload_n (pc := 57) (j := 0) dX6_comparing_57 rfl rfl ?_
      exact mm_iret (pc := 58) dX6_comparing_58 rfl (Nat.le_refl 0) (Nat.le_refl 0) ⟨_, rfl, rfl, hG, h⟩
  · have h := mm_ift hc h
    refine mm_aload_n (pc := 37) (j := 1) dX6_comparing_37 rfl rfl ?_
    refine mm_bipush (pc := 38) (x := 61) dX6_comparing_38 rfl ?_
    refine mm_kVV (pc := 40) [.int 61] dX6_comparing_40 kX6_108 rfl (sh_Rd ha) (Nat.le_of_ble_eq_true rfl) (Nat.le_of_ble_eq_true rfl) h (fun m40 hG h => ?_)
    refine mm_goto (pc := 43) (tgt := 57) dX6_comparing_43 (by decide) ?_
    refine mm_iload_n (pc := 57) (j := 0) dX6_comparing_57 rfl rfl ?_
    exact mm_iret (pc := 58) dX6_comparing_58 rfl (Nat.le_refl 0) (Nat.le_refl 0) ⟨_, rfl, rfl, hG, h⟩
def jX6_product_6 (d : Nat) (a : Nat) (M : mm_M) (K : mm_M → Prop) (y1 : Int32) : Prop := mm_W mX6_product (d + 1) 0 0 6 [(0, .ref a), (1, .int y1)] [] mm_SH M 0 0 (mm_PV K)
def jX6_product_38 (d : Nat) (a : Nat) (M : mm_M) (K : mm_M → Prop) (y1 : Int32) : Prop := mm_W mX6_product (d + 1) 0 0 38 [(0, .ref a), (1, .int y1)] [] mm_SH M 0 0 (mm_PV K)
set_option maxRecDepth 100000 in
set_option maxHeartbeats 4000000 in
theorem rX6_product {d : Nat} {a : Nat} {M : mm_M} {K : mm_M → Prop} (ha : a ∈ mm_Rds) (hG : mm_G M.2.2) (h : mm_CV mX6_part d [.ref a] M (fun m1 => jX6_product_6 d a m1 K 0)) : mm_CV mX6_product (d + 1) [.ref a] M K := by
  show mm_W mX6_product (d + 1) 0 0 0 [(0, .ref a)] [] mm_SH M 0 0 (mm_PV K)
  refine mm_aload_n (pc := 0) (j := 0) dX6_product_0 rfl rfl ?_
  refine mm_kVV (pc := 1) [] dX6_product_1 kX6_121 rfl (sh_Rd ha) (Nat.le_of_ble_eq_true rfl) (Nat.le_of_ble_eq_true rfl) h (fun m1 hG h => ?_)
  refine mm_iconst (pc := 4) (x := 0) dX6_product_4 rfl ?_
  refine mm_istore_n (pc := 5) (lv' := [(1, .int 0), (0, .ref a)]) dX6_product_5 rfl (by decide) rfl ?_
  exact mm_sub [1, 0] rfl h
set_option maxRecDepth 100000 in
set_option maxHeartbeats 4000000 in
theorem lX6_product_6 {d : Nat} {a : Nat} {M : mm_M} {K : mm_M → Prop} {y1 : Int32} (ha : a ∈ mm_Rds) (hG : mm_G M.2.2) (h : if 1600 ≤ y1 then (K M) else (if (M.1 a 8) = 0 then (mm_CI mX6_isSign d [.ref a, .int 42] M (fun z23 m23 => if z23 = 0 then (mm_CI mX6_isSign d [.ref a, .int 47] m23 (fun z32 m32 => if z32 = 0 then (K m32) else (jX6_product_38 d a m32 K y1))) else (jX6_product_38 d a m23 K y1))) else (K M))) : jX6_product_6 d a M K y1 := by
  unfold jX6_product_6
  refine mm_iload_n (pc := 6) (j := 1) dX6_product_6 rfl rfl ?_
  refine mm_sipush (pc := 7) (x := 1600) dX6_product_7 rfl ?_
  refine mm_icmp_ge (pc := 10) (tgt := 74) dX6_product_10 (by decide) (fun hc => ?_) (fun hc => ?_)
  · have h := mm_ift hc h
    exact mm_vret (pc := 74) dX6_product_74 rfl (Nat.le_refl 0) (Nat.le_refl 0) ⟨rfl, rfl, hG, h⟩
  · have h := mm_iff hc h
    refine mm_aload_n (pc := 13) (j := 0) dX6_product_13 rfl rfl ?_
    refine mm_getI (pc := 14) (ci := 6) (N := 15) dX6_product_14 fX6_34 (sh_Rd ha) rfl ?_
    refine mm_if_ne (pc := 17) (tgt := 74) dX6_product_17 (by decide) (fun hc => ?_) (fun hc => ?_)
    · have h := mm_iff hc h
      exact mm_vret (pc := 74) dX6_product_74 rfl (Nat.le_refl 0) (Nat.le_refl 0) ⟨rfl, rfl, hG, h⟩
    · have h := mm_ift hc h
      refine mm_aload_n (pc := 20) (j := 0) dX6_product_20 rfl rfl ?_
      refine mm_bipush (pc := 21) (x := 42) dX6_product_21 rfl ?_
      refine mm_kVI (pc := 23) [.int 42] dX6_product_23 kX6_83 rfl (sh_Rd ha) (Nat.le_of_ble_eq_true rfl) (Nat.le_of_ble_eq_true rfl) h (fun z23 m23 hG h => ?_)
      refine mm_if_ne (pc := 26) (tgt := 38) dX6_product_26 (by decide) (fun hc => ?_) (fun hc => ?_)
      · have h := mm_iff hc h
        exact h
      · have h := mm_ift hc h
        refine mm_aload_n (pc := 29) (j := 0) dX6_product_29 rfl rfl ?_
        refine mm_bipush (pc := 30) (x := 47) dX6_product_30 rfl ?_
        refine mm_kVI (pc := 32) [.int 47] dX6_product_32 kX6_83 rfl (sh_Rd ha) (Nat.le_of_ble_eq_true rfl) (Nat.le_of_ble_eq_true rfl) h (fun z32 m32 hG h => ?_)
        refine mm_if_eq (pc := 35) (tgt := 74) dX6_product_35 (by decide) (fun hc => ?_) (fun hc => ?_)
        · have h := mm_ift hc h
          exact mm_vret (pc := 74) dX6_product_74 rfl (Nat.le_refl 0) (Nat.le_refl 0) ⟨rfl, rfl, hG, h⟩
        · have h := mm_iff hc h
          exact h
set_option maxRecDepth 100000 in
set_option maxHeartbeats 4000000 in
theorem lX6_product_38 {d : Nat} {a : Nat} {M : mm_M} {K : mm_M → Prop} {y1 : Int32} (ha : a ∈ mm_Rds) (hG : mm_G M.2.2) (h : mm_CI mX6_isSign d [.ref a, .int 42] M (fun z41 m41 => if z41 = 0 then (mm_CV mX6_next d [.ref a] m41 (fun m56 => mm_CV mX6_part d [.ref a] m56 (fun m60 => mm_CV mX6_emit d [.ref a, .int (-4)] m60 (fun m65 => jX6_product_6 d a m65 K (y1 + 1))))) else (mm_CV mX6_next d [.ref a] m41 (fun m56 => mm_CV mX6_part d [.ref a] m56 (fun m60 => mm_CV mX6_emit d [.ref a, .int (-3)] m60 (fun m65 => jX6_product_6 d a m65 K (y1 + 1))))))) : jX6_product_38 d a M K y1 := by
  unfold jX6_product_38
  refine mm_aload_n (pc := 38) (j := 0) dX6_product_38 rfl rfl ?_
  refine mm_bipush (pc := 39) (x := 42) dX6_product_39 rfl ?_
  refine mm_kVI (pc := 41) [.int 42] dX6_product_41 kX6_83 rfl (sh_Rd ha) (Nat.le_of_ble_eq_true rfl) (Nat.le_of_ble_eq_true rfl) h (fun z41 m41 hG h => ?_)
  refine mm_if_eq (pc := 44) (tgt := 52) dX6_product_44 (by decide) (fun hc => ?_) (fun hc => ?_)
  · have h := mm_ift hc h
    refine mm_bipush (pc := 52) (x := (-4)) dX6_product_52 rfl ?_
    refine mm_istore_n (pc := 54) (lv' := [(2, .int (-4)), (0, .ref a), (1, .int y1)]) dX6_product_54 rfl (by decide) rfl ?_
    refine mm_aload_n (pc := 55) (j := 1) dX6_product_55 rfl rfl ?_
    refine mm_kVV (pc := 56) [] dX6_product_56 kX6_43 rfl (sh_Rd ha) (Nat.le_of_ble_eq_true rfl) (Nat.le_of_ble_eq_true rfl) h (fun m56 hG h => ?_)
    refine mm_aload_n (pc := 59) (j := 1) dX6_product_59 rfl rfl ?_
    refine mm_kVV (pc := 60) [] dX6_product_60 kX6_121 rfl (sh_Rd ha) (Nat.le_of_ble_eq_true rfl) (Nat.le_of_ble_eq_true rfl) h (fun m60 hG h => ?_)
    refine mm_aload_n (pc := 63) (j := 1) dX6_product_63 rfl rfl ?_
    refine mm_iload_n (pc := 64) (j := 0) dX6_product_64 rfl rfl ?_
    refine mm_kVV (pc := 65) [.int (-4)] dX6_product_65 kX6_92 rfl (sh_Rd ha) (Nat.le_of_ble_eq_true rfl) (Nat.le_of_ble_eq_true rfl) h (fun m65 hG h => ?_)
    refine mm_iinc (pc := 68) (j := 2) (v := y1 + 1) (lv' := [(1, .int (y1 + 1)), (2, .int (-4)), (0, .ref a)]) dX6_product_68 rfl rfl (by decide) rfl ?_
    refine mm_goto (pc := 71) (tgt := 6) dX6_product_71 (by decide) ?_
    exact mm_sub [2, 0] rfl h
  · have h := mm_iff hc h
    refine mm_bipush (pc := 47) (x := (-3)) dX6_product_47 rfl ?_
    refine mm_goto (pc := 49) (tgt := 54) dX6_product_49 (by decide) ?_
    refine mm_istore_n (pc := 54) (lv' := [(2, .int (-3)), (0, .ref a), (1, .int y1)]) dX6_product_54 rfl (by decide) rfl ?_
    refine mm_aload_n (pc := 55) (j := 1) dX6_product_55 rfl rfl ?_
    refine mm_kVV (pc := 56) [] dX6_product_56 kX6_43 rfl (sh_Rd ha) (Nat.le_of_ble_eq_true rfl) (Nat.le_of_ble_eq_true rfl) h (fun m56 hG h => ?_)
    refine mm_aload_n (pc := 59) (j := 1) dX6_product_59 rfl rfl ?_
    refine mm_kVV (pc := 60) [] dX6_product_60 kX6_121 rfl (sh_Rd ha) (Nat.le_of_ble_eq_true rfl) (Nat.le_of_ble_eq_true rfl) h (fun m60 hG h => ?_)
    refine mm_aload_n (pc := 63) (j := 1) dX6_product_63 rfl rfl ?_
    refine mm_iload_n (pc := 64) (j := 0) dX6_product_64 rfl rfl ?_
    refine mm_kVV (pc := 65) [.int (-3)] dX6_product_65 kX6_92 rfl (sh_Rd ha) (Nat.le_of_ble_eq_true rfl) (Nat.le_of_ble_eq_true rfl) h (fun m65 hG h => ?_)
    refine mm_iinc (pc := 68) (j := 2) (v := y1 + 1) (lv' := [(1, .int (y1 + 1)), (2, .int (-3)), (0, .ref a)]) dX6_product_68 rfl rfl (by decide) rfl ?_
    refine mm_goto (pc := 71) (tgt := 6) dX6_product_71 (by decide) ?_
    exact mm_sub [2, 0] rfl h
def jX6_part_160 (d : Nat) (a : Nat) (M : mm_M) (K : mm_M → Prop) : Prop := mm_W mX6_part (d + 1) 0 0 160 [(0, .ref a)] [] mm_SH M 0 0 (mm_PV K)
def jX6_part_133 (d : Nat) (a : Nat) (M : mm_M) (K : mm_M → Prop) (u0 : Int32) : Prop := mm_W mX6_part (d + 1) 0 0 133 [(0, .ref a)] [.int u0] mm_SH M 0 0 (mm_PV K)
set_option maxRecDepth 100000 in
set_option maxHeartbeats 4000000 in
theorem rX6_part {d : Nat} {a : Nat} {M : mm_M} {K : mm_M → Prop} (ha : a ∈ mm_Rds) (hG : mm_G M.2.2) (h : if (M.1 a 8) = 0 then (if (M.1 a 3) = 2 then (mm_CI mX6_takeNumber d [.ref a, .int 0, .int 9999] M (fun z22 m22 => mm_CV mX6_emit d [.ref a, .int z22] m22 (fun m25 => K m25))) else (mm_CI mX6_isSign d [.ref a, .int 40] M (fun z34 m34 => if z34 = 0 then (if (m34.1 a 5) = 22 then (mm_CV mX6_lesserOrGreater d [.ref a] m34 (fun m86 => K m86)) else (if (m34.1 a 5) = 23 then (mm_CV mX6_lesserOrGreater d [.ref a] m34 (fun m86 => K m86)) else (if (m34.1 a 12) = 0 then (jX6_part_160 d a m34 K) else (if (m34.1 a 5) = 6 then (if (m34.1 a 5) = 6 then (jX6_part_133 d a m34 K (-13)) else (jX6_part_133 d a m34 K (-14))) else (if (m34.1 a 5) = 8 then (if (m34.1 a 5) = 6 then (jX6_part_133 d a m34 K (-13)) else (jX6_part_133 d a m34 K (-14))) else (jX6_part_160 d a m34 K)))))) else (mm_CV mX6_openNext d [.ref a] m34 (fun m41 => mm_CV mX6_sumIfFine d [.ref a] m41 (fun m45 => mm_CV mX6_expectSign d [.ref a, .int 41] m45 (fun m51 => K (mm_uI m51 a 10 ((m51.1 a 10) - 1))))))))) else (K M)) : mm_CV mX6_part (d + 1) [.ref a] M K := by
  show mm_W mX6_part (d + 1) 0 0 0 [(0, .ref a)] [] mm_SH M 0 0 (mm_PV K)
  refine mm_aload_n (pc := 0) (j := 0) dX6_part_0 rfl rfl ?_
  refine mm_getI (pc := 1) (ci := 6) (N := 15) dX6_part_1 fX6_34 (sh_Rd ha) rfl ?_
  refine mm_if_eq (pc := 4) (tgt := 8) dX6_part_4 (by decide) (fun hc => ?_) (fun hc => ?_)
  · have h := mm_ift hc h
    refine mm_aload_n (pc := 8) (j := 0) dX6_part_8 rfl rfl ?_
    refine mm_getI (pc := 9) (ci := 6) (N := 15) dX6_part_9 fX6_55 (sh_Rd ha) rfl ?_
    refine mm_iconst (pc := 12) (x := 2) dX6_part_12 rfl ?_
    refine mm_icmp_ne (pc := 13) (tgt := 31) dX6_part_13 (by decide) (fun hc => ?_) (fun hc => ?_)
    · have h := mm_iff hc h
      refine mm_aload_n (pc := 31) (j := 0) dX6_part_31 rfl rfl ?_
      refine mm_bipush (pc := 32) (x := 40) dX6_part_32 rfl ?_
      refine mm_kVI (pc := 34) [.int 40] dX6_part_34 kX6_83 rfl (sh_Rd ha) (Nat.le_of_ble_eq_true rfl) (Nat.le_of_ble_eq_true rfl) h (fun z34 m34 hG h => ?_)
      refine mm_if_eq (pc := 37) (tgt := 67) dX6_part_37 (by decide) (fun hc => ?_) (fun hc => ?_)
      · have h := mm_ift hc h
        refine mm_aload_n (pc := 67) (j := 0) dX6_part_67 rfl rfl ?_
        refine mm_getI (pc := 68) (ci := 6) (N := 15) dX6_part_68 fX6_52 (sh_Rd ha) rfl ?_
        refine mm_bipush (pc := 71) (x := 22) dX6_part_71 rfl ?_
        refine mm_icmp_eq (pc := 73) (tgt := 85) dX6_part_73 (by decide) (fun hc => ?_) (fun hc => ?_)
        · have h := mm_ift hc h
          refine mm_aload_n (pc := 85) (j := 0) dX6_part_85 rfl rfl ?_
          refine mm_kVV (pc := 86) [] dX6_part_86 kX6_127 rfl (sh_Rd ha) (Nat.le_of_ble_eq_true rfl) (Nat.le_of_ble_eq_true rfl) h (fun m86 hG h => ?_)
          refine mm_goto (pc := 89) (tgt := 209) dX6_part_89 (by decide) ?_
          exact mm_vret (pc := 209) dX6_part_209 rfl (Nat.le_refl 0) (Nat.le_refl 0) ⟨rfl, rfl, hG, h⟩
        · have h := mm_iff hc h
          refine mm_aload_n (pc := 76) (j := 0) dX6_part_76 rfl rfl ?_
          refine mm_getI (pc := 77) (ci := 6) (N := 15) dX6_part_77 fX6_52 (sh_Rd ha) rfl ?_
          refine mm_bipush (pc := 80) (x := 23) dX6_part_80 rfl ?_
          refine mm_icmp_ne (pc := 82) (tgt := 92) dX6_part_82 (by decide) (fun hc => ?_) (fun hc => ?_)
          · have h := mm_iff hc h
            refine mm_aload_n (pc := 92) (j := 0) dX6_part_92 rfl rfl ?_
            refine mm_getI (pc := 93) (ci := 6) (N := 15) dX6_part_93 fX6_130 (sh_Rd ha) rfl ?_
            refine mm_if_eq (pc := 96) (tgt := 160) dX6_part_96 (by decide) (fun hc => ?_) (fun hc => ?_)
            · have h := mm_ift hc h
              exact h
            · have h := mm_iff hc h
              refine mm_aload_n (pc := 99) (j := 0) dX6_part_99 rfl rfl ?_
              refine mm_getI (pc := 100) (ci := 6) (N := 15) dX6_part_100 fX6_52 (sh_Rd ha) rfl ?_
              refine mm_bipush (pc := 103) (x := 6) dX6_part_103 rfl ?_
              refine mm_icmp_eq (pc := 105) (tgt := 117) dX6_part_105 (by decide) (fun hc => ?_) (fun hc => ?_)
              · have h := mm_ift hc h
                refine mm_aload_n (pc := 117) (j := 0) dX6_part_117 rfl rfl ?_
                refine mm_getI (pc := 118) (ci := 6) (N := 15) dX6_part_118 fX6_52 (sh_Rd ha) rfl ?_
                refine mm_bipush (pc := 121) (x := 6) dX6_part_121 rfl ?_
                refine mm_icmp_ne (pc := 123) (tgt := 131) dX6_part_123 (by decide) (fun hc => ?_) (fun hc => ?_)
                · have h := mm_iff hc h
                  refine mm_bipush (pc := 131) (x := (-14)) dX6_part_131 rfl ?_
                  exact h
                · have h := mm_ift hc h
                  refine mm_bipush (pc := 126) (x := (-13)) dX6_part_126 rfl ?_
                  refine mm_goto (pc := 128) (tgt := 133) dX6_part_128 (by decide) ?_
                  exact h
              · have h := mm_iff hc h
                refine mm_aload_n (pc := 108) (j := 0) dX6_part_108 rfl rfl ?_
                refine mm_getI (pc := 109) (ci := 6) (N := 15) dX6_part_109 fX6_52 (sh_Rd ha) rfl ?_
                refine mm_bipush (pc := 112) (x := 8) dX6_part_112 rfl ?_
                refine mm_icmp_ne (pc := 114) (tgt := 160) dX6_part_114 (by decide) (fun hc => ?_) (fun hc => ?_)
                · have h := mm_iff hc h
                  exact h
                · have h := mm_ift hc h
                  refine mm_aload_n (pc := 117) (j := 0) dX6_part_117 rfl rfl ?_
                  refine mm_getI (pc := 118) (ci := 6) (N := 15) dX6_part_118 fX6_52 (sh_Rd ha) rfl ?_
                  refine mm_bipush (pc := 121) (x := 6) dX6_part_121 rfl ?_
                  refine mm_icmp_ne (pc := 123) (tgt := 131) dX6_part_123 (by decide) (fun hc => ?_) (fun hc => ?_)
                  · have h := mm_iff hc h
                    refine mm_bipush (pc := 131) (x := (-14)) dX6_part_131 rfl ?_
                    exact h
                  · have h := mm_ift hc h
                    refine mm_bipush (pc := 126) (x := (-13)) dX6_part_126 rfl ?_
                    refine mm_goto (pc := 128) (tgt := 133) dX6_part_128 (by decide) ?_
                    exact h
          · have h := mm_ift hc h
            refine mm_aload_n (pc := 85) (j := 0) dX6_part_85 rfl rfl ?_
            refine mm_kVV (pc := 86) [] dX6_part_86 kX6_127 rfl (sh_Rd ha) (Nat.le_of_ble_eq_true rfl) (Nat.le_of_ble_eq_true rfl) h (fun m86 hG h => ?_)
            refine mm_goto (pc := 89) (tgt := 209) dX6_part_89 (by decide) ?_
            exact mm_vret (pc := 209) dX6_part_209 rfl (Nat.le_refl 0) (Nat.le_refl 0) ⟨rfl, rfl, hG, h⟩
      · have h := mm_iff hc h
        refine mm_aload_n (pc := 40) (j := 0) dX6_part_40 rfl rfl ?_
        refine mm_kVV (pc := 41) [] dX6_part_41 kX6_102 rfl (sh_Rd ha) (Nat.le_of_ble_eq_true rfl) (Nat.le_of_ble_eq_true rfl) h (fun m41 hG h => ?_)
        refine mm_aload_n (pc := 44) (j := 0) dX6_part_44 rfl rfl ?_
        refine mm_kVV (pc := 45) [] dX6_part_45 kX6_118 rfl (sh_Rd ha) (Nat.le_of_ble_eq_true rfl) (Nat.le_of_ble_eq_true rfl) h (fun m45 hG h => ?_)
        refine mm_aload_n (pc := 48) (j := 0) dX6_part_48 rfl rfl ?_
        refine mm_bipush (pc := 49) (x := 41) dX6_part_49 rfl ?_
        refine mm_kVV (pc := 51) [.int 41] dX6_part_51 kX6_108 rfl (sh_Rd ha) (Nat.le_of_ble_eq_true rfl) (Nat.le_of_ble_eq_true rfl) h (fun m51 hG h => ?_)
        refine mm_aload_n (pc := 54) (j := 0) dX6_part_54 rfl rfl ?_
        refine mm_dup (pc := 55) dX6_part_55 rfl ?_
        refine mm_getI (pc := 56) (ci := 6) (N := 15) dX6_part_56 fX6_40 (sh_Rd ha) rfl ?_
        refine mm_iconst (pc := 59) (x := 1) dX6_part_59 rfl ?_
        refine mm_isub (pc := 60) dX6_part_60 ?_
        refine mm_putI (pc := 61) (ci := 6) (N := 15) dX6_part_61 fX6_40 (sh_Rd ha) (by decide +kernel) rfl rfl rfl ?_
        refine mm_goto (pc := 64) (tgt := 209) dX6_part_64 (by decide) ?_
        exact mm_vret (pc := 209) dX6_part_209 rfl (Nat.le_refl 0) (Nat.le_refl 0) ⟨rfl, rfl, hG, h⟩
    · have h := mm_ift hc h
      refine mm_aload_n (pc := 16) (j := 0) dX6_part_16 rfl rfl ?_
      refine mm_aload_n (pc := 17) (j := 0) dX6_part_17 rfl rfl ?_
      refine mm_iconst (pc := 18) (x := 0) dX6_part_18 rfl ?_
      refine mm_sipush (pc := 19) (x := 9999) dX6_part_19 rfl ?_
      refine mm_kVI (pc := 22) [.int 0, .int 9999] dX6_part_22 kX6_124 rfl (sh_Rd ha) (Nat.le_of_ble_eq_true rfl) (Nat.le_of_ble_eq_true rfl) h (fun z22 m22 hG h => ?_)
      refine mm_kVV (pc := 25) [.int z22] dX6_part_25 kX6_92 rfl (sh_Rd ha) (Nat.le_of_ble_eq_true rfl) (Nat.le_of_ble_eq_true rfl) h (fun m25 hG h => ?_)
      refine mm_goto (pc := 28) (tgt := 209) dX6_part_28 (by decide) ?_
      exact mm_vret (pc := 209) dX6_part_209 rfl (Nat.le_refl 0) (Nat.le_refl 0) ⟨rfl, rfl, hG, h⟩
  · have h := mm_iff hc h
    exact mm_vret (pc := 7) dX6_part_7 rfl (Nat.le_refl 0) (Nat.le_refl 0) ⟨rfl, rfl, hG, h⟩
set_option maxRecDepth 100000 in
set_option maxHeartbeats 4000000 in
theorem lX6_part_160 {d : Nat} {a : Nat} {M : mm_M} {K : mm_M → Prop} (ha : a ∈ mm_Rds) (hG : mm_G M.2.2) (h : if (M.1 a 5) < 0 then (mm_CV mX6_refuse d [.ref a, .int 1, .int (M.1 a 4)] M (fun m206 => K m206)) else (if (((M.1 a 11) >>> ((M.1 a 5) &&& 31)) &&& 1) = 0 then (mm_CV mX6_refuse d [.ref a, .int 1, .int (M.1 a 4)] M (fun m206 => K m206)) else (mm_CV mX6_emit d [.ref a, .int (10000 + (M.1 a 5))] M (fun m190 => mm_CV mX6_next d [.ref a] m190 (fun m194 => K m194))))) : jX6_part_160 d a M K  := by
  unfold jX6_part_160
  refine mm_aload_n (pc := 160) (j := 0) dX6_part_160 rfl rfl ?_
  refine mm_getI (pc := 161) (ci := 6) (N := 15) dX6_part_161 fX6_52 (sh_Rd ha) rfl ?_
  refine mm_if_lt (pc := 164) (tgt := 200) dX6_part_164 (by decide) (fun hc => ?_) (fun hc => ?_)
  · have h := mm_ift hc h
    refine mm_aload_n (pc := 200) (j := 0) dX6_part_200 rfl rfl ?_
    refine mm_iconst (pc := 201) (x := 1) dX6_part_201 rfl ?_
    refine mm_aload_n (pc := 202) (j := 0) dX6_part_202 rfl rfl ?_
    refine mm_getI (pc := 203) (ci := 6) (N := 15) dX6_part_203 fX6_49 (sh_Rd ha) rfl ?_
    refine mm_kVV (pc := 206) [.int 1, .int (M.1 a 4)] dX6_part_206 kX6_79 rfl (sh_Rd ha) (Nat.le_of_ble_eq_true rfl) (Nat.le_of_ble_eq_true rfl) h (fun m206 hG h => ?_)
    exact mm_vret (pc := 209) dX6_part_209 rfl (Nat.le_refl 0) (Nat.le_refl 0) ⟨rfl, rfl, hG, h⟩
  · have h := mm_iff hc h
    refine mm_aload_n (pc := 167) (j := 0) dX6_part_167 rfl rfl ?_
    refine mm_getI (pc := 168) (ci := 6) (N := 15) dX6_part_168 fX6_134 (sh_Rd ha) rfl ?_
    refine mm_aload_n (pc := 171) (j := 0) dX6_part_171 rfl rfl ?_
    refine mm_getI (pc := 172) (ci := 6) (N := 15) dX6_part_172 fX6_52 (sh_Rd ha) rfl ?_
    refine mm_ishr (pc := 175) dX6_part_175 ?_
    refine mm_iconst (pc := 176) (x := 1) dX6_part_176 rfl ?_
    refine mm_iand (pc := 177) dX6_part_177 ?_
    refine mm_if_eq (pc := 178) (tgt := 200) dX6_part_178 (by decide) (fun hc => ?_) (fun hc => ?_)
    · have h := mm_ift hc h
      refine mm_aload_n (pc := 200) (j := 0) dX6_part_200 rfl rfl ?_
      refine mm_iconst (pc := 201) (x := 1) dX6_part_201 rfl ?_
      refine mm_aload_n (pc := 202) (j := 0) dX6_part_202 rfl rfl ?_
      refine mm_getI (pc := 203) (ci := 6) (N := 15) dX6_part_203 fX6_49 (sh_Rd ha) rfl ?_
      refine mm_kVV (pc := 206) [.int 1, .int (M.1 a 4)] dX6_part_206 kX6_79 rfl (sh_Rd ha) (Nat.le_of_ble_eq_true rfl) (Nat.le_of_ble_eq_true rfl) h (fun m206 hG h => ?_)
      exact mm_vret (pc := 209) dX6_part_209 rfl (Nat.le_refl 0) (Nat.le_refl 0) ⟨rfl, rfl, hG, h⟩
    · have h := mm_iff hc h
      refine mm_aload_n (pc := 181) (j := 0) dX6_part_181 rfl rfl ?_
      refine mm_sipush (pc := 182) (x := 10000) dX6_part_182 rfl ?_
      refine mm_aload_n (pc := 185) (j := 0) dX6_part_185 rfl rfl ?_
      refine mm_getI (pc := 186) (ci := 6) (N := 15) dX6_part_186 fX6_52 (sh_Rd ha) rfl ?_
      refine mm_iadd (pc := 189) dX6_part_189 ?_
      refine mm_kVV (pc := 190) [.int (10000 + (M.1 a 5))] dX6_part_190 kX6_92 rfl (sh_Rd ha) (Nat.le_of_ble_eq_true rfl) (Nat.le_of_ble_eq_true rfl) h (fun m190 hG h => ?_)
      refine mm_aload_n (pc := 193) (j := 0) dX6_part_193 rfl rfl ?_
      refine mm_kVV (pc := 194) [] dX6_part_194 kX6_43 rfl (sh_Rd ha) (Nat.le_of_ble_eq_true rfl) (Nat.le_of_ble_eq_true rfl) h (fun m194 hG h => ?_)
      refine mm_goto (pc := 197) (tgt := 209) dX6_part_197 (by decide) ?_
      exact mm_vret (pc := 209) dX6_part_209 rfl (Nat.le_refl 0) (Nat.le_refl 0) ⟨rfl, rfl, hG, h⟩
set_option maxRecDepth 100000 in
set_option maxHeartbeats 4000000 in
theorem lX6_part_133 {d : Nat} {a : Nat} {M : mm_M} {K : mm_M → Prop} {u0 : Int32} (ha : a ∈ mm_Rds) (hG : mm_G M.2.2) (h : mm_CV mX6_openNext d [.ref a] M (fun m135 => mm_CV mX6_part d [.ref a] m135 (fun m139 => mm_CV mX6_emit d [.ref a, .int u0] m139 (fun m144 => K (mm_uI m144 a 10 ((m144.1 a 10) - 1)))))) : jX6_part_133 d a M K u0 := by
  unfold jX6_part_133
  refine mm_istore_n (pc := 133) (lv' := [(1, .int u0), (0, .ref a)]) dX6_part_133 rfl (by decide) rfl ?_
  refine mm_aload_n (pc := 134) (j := 1) dX6_part_134 rfl rfl ?_
  refine mm_kVV (pc := 135) [] dX6_part_135 kX6_102 rfl (sh_Rd ha) (Nat.le_of_ble_eq_true rfl) (Nat.le_of_ble_eq_true rfl) h (fun m135 hG h => ?_)
  refine mm_aload_n (pc := 138) (j := 1) dX6_part_138 rfl rfl ?_
  refine mm_kVV (pc := 139) [] dX6_part_139 kX6_121 rfl (sh_Rd ha) (Nat.le_of_ble_eq_true rfl) (Nat.le_of_ble_eq_true rfl) h (fun m139 hG h => ?_)
  refine mm_aload_n (pc := 142) (j := 1) dX6_part_142 rfl rfl ?_
  refine mm_iload_n (pc := 143) (j := 0) dX6_part_143 rfl rfl ?_
  refine mm_kVV (pc := 144) [.int u0] dX6_part_144 kX6_92 rfl (sh_Rd ha) (Nat.le_of_ble_eq_true rfl) (Nat.le_of_ble_eq_true rfl) h (fun m144 hG h => ?_)
  refine mm_aload_n (pc := 147) (j := 1) dX6_part_147 rfl rfl ?_
  refine mm_dup (pc := 148) dX6_part_148 rfl ?_
  refine mm_getI (pc := 149) (ci := 6) (N := 15) dX6_part_149 fX6_40 (sh_Rd ha) rfl ?_
  refine mm_iconst (pc := 152) (x := 1) dX6_part_152 rfl ?_
  refine mm_isub (pc := 153) dX6_part_153 ?_
  refine mm_putI (pc := 154) (ci := 6) (N := 15) dX6_part_154 fX6_40 (sh_Rd ha) (by decide +kernel) rfl rfl rfl ?_
  refine mm_goto (pc := 157) (tgt := 209) dX6_part_157 (by decide) ?_
  exact mm_vret (pc := 209) dX6_part_209 rfl (Nat.le_refl 0) (Nat.le_refl 0) ⟨rfl, rfl, hG, h⟩
def jX6_lesserOrGreater_16 (d : Nat) (a : Nat) (M : mm_M) (K : mm_M → Prop) (u0 : Int32) : Prop := mm_W mX6_lesserOrGreater (d + 1) 0 0 16 [(0, .ref a)] [.int u0] mm_SH M 0 0 (mm_PV K)
set_option maxRecDepth 100000 in
set_option maxHeartbeats 4000000 in
theorem rX6_lesserOrGreater {d : Nat} {a : Nat} {M : mm_M} {K : mm_M → Prop} (ha : a ∈ mm_Rds) (hG : mm_G M.2.2) (h : if (M.1 a 5) = 22 then (jX6_lesserOrGreater_16 d a M K (-10)) else (jX6_lesserOrGreater_16 d a M K (-11))) : mm_CV mX6_lesserOrGreater (d + 1) [.ref a] M K := by
  show mm_W mX6_lesserOrGreater (d + 1) 0 0 0 [(0, .ref a)] [] mm_SH M 0 0 (mm_PV K)
  refine mm_aload_n (pc := 0) (j := 0) dX6_lesserOrGreater_0 rfl rfl ?_
  refine mm_getI (pc := 1) (ci := 6) (N := 15) dX6_lesserOrGreater_1 fX6_52 (sh_Rd ha) rfl ?_
  refine mm_bipush (pc := 4) (x := 22) dX6_lesserOrGreater_4 rfl ?_
  refine mm_icmp_ne (pc := 6) (tgt := 14) dX6_lesserOrGreater_6 (by decide) (fun hc => ?_) (fun hc => ?_)
  · have h := mm_iff hc h
    refine mm_bipush (pc := 14) (x := (-11)) dX6_lesserOrGreater_14 rfl ?_
    exact h
  · have h := mm_ift hc h
    refine mm_bipush (pc := 9) (x := (-10)) dX6_lesserOrGreater_9 rfl ?_
    refine mm_goto (pc := 11) (tgt := 16) dX6_lesserOrGreater_11 (by decide) ?_
    exact h
set_option maxRecDepth 100000 in
set_option maxHeartbeats 4000000 in
theorem lX6_lesserOrGreater_16 {d : Nat} {a : Nat} {M : mm_M} {K : mm_M → Prop} {u0 : Int32} (ha : a ∈ mm_Rds) (hG : mm_G M.2.2) (h : mm_CV mX6_next d [.ref a] M (fun m18 => mm_CI mX6_isSign d [.ref a, .int 40] m18 (fun z24 m24 => if z24 = 0 then (mm_CV mX6_refuse d [.ref a, .int 1, .int (m24.1 a 4)] m24 (fun m36 => K m36)) else (mm_CV mX6_openNext d [.ref a] m24 (fun m41 => mm_CV mX6_sumIfFine d [.ref a] m41 (fun m45 => mm_CV mX6_expectSign d [.ref a, .int 44] m45 (fun m51 => mm_CV mX6_sumIfFine d [.ref a] m51 (fun m55 => mm_CV mX6_expectSign d [.ref a, .int 41] m55 (fun m61 => mm_CV mX6_emit d [.ref a, .int u0] m61 (fun m66 => K (mm_uI m66 a 10 ((m66.1 a 10) - 1)))))))))))) : jX6_lesserOrGreater_16 d a M K u0 := by
  unfold jX6_lesserOrGreater_16
  refine mm_istore_n (pc := 16) (lv' := [(1, .int u0), (0, .ref a)]) dX6_lesserOrGreater_16 rfl (by decide) rfl ?_
  refine mm_aload_n (pc := 17) (j := 1) dX6_lesserOrGreater_17 rfl rfl ?_
  refine mm_kVV (pc := 18) [] dX6_lesserOrGreater_18 kX6_43 rfl (sh_Rd ha) (Nat.le_of_ble_eq_true rfl) (Nat.le_of_ble_eq_true rfl) h (fun m18 hG h => ?_)
  refine mm_aload_n (pc := 21) (j := 1) dX6_lesserOrGreater_21 rfl rfl ?_
  refine mm_bipush (pc := 22) (x := 40) dX6_lesserOrGreater_22 rfl ?_
  refine mm_kVI (pc := 24) [.int 40] dX6_lesserOrGreater_24 kX6_83 rfl (sh_Rd ha) (Nat.le_of_ble_eq_true rfl) (Nat.le_of_ble_eq_true rfl) h (fun z24 m24 hG h => ?_)
  refine mm_if_ne (pc := 27) (tgt := 40) dX6_lesserOrGreater_27 (by decide) (fun hc => ?_) (fun hc => ?_)
  · have h := mm_iff hc h
    refine mm_aload_n (pc := 40) (j := 1) dX6_lesserOrGreater_40 rfl rfl ?_
    refine mm_kVV (pc := 41) [] dX6_lesserOrGreater_41 kX6_102 rfl (sh_Rd ha) (Nat.le_of_ble_eq_true rfl) (Nat.le_of_ble_eq_true rfl) h (fun m41 hG h => ?_)
    refine mm_aload_n (pc := 44) (j := 1) dX6_lesserOrGreater_44 rfl rfl ?_
    refine mm_kVV (pc := 45) [] dX6_lesserOrGreater_45 kX6_118 rfl (sh_Rd ha) (Nat.le_of_ble_eq_true rfl) (Nat.le_of_ble_eq_true rfl) h (fun m45 hG h => ?_)
    refine mm_aload_n (pc := 48) (j := 1) dX6_lesserOrGreater_48 rfl rfl ?_
    refine mm_bipush (pc := 49) (x := 44) dX6_lesserOrGreater_49 rfl ?_
    refine mm_kVV (pc := 51) [.int 44] dX6_lesserOrGreater_51 kX6_108 rfl (sh_Rd ha) (Nat.le_of_ble_eq_true rfl) (Nat.le_of_ble_eq_true rfl) h (fun m51 hG h => ?_)
    refine mm_aload_n (pc := 54) (j := 1) dX6_lesserOrGreater_54 rfl rfl ?_
    refine mm_kVV (pc := 55) [] dX6_lesserOrGreater_55 kX6_118 rfl (sh_Rd ha) (Nat.le_of_ble_eq_true rfl) (Nat.le_of_ble_eq_true rfl) h (fun m55 hG h => ?_)
    refine mm_aload_n (pc := 58) (j := 1) dX6_lesserOrGreater_58 rfl rfl ?_
    refine mm_bipush (pc := 59) (x := 41) dX6_lesserOrGreater_59 rfl ?_
    refine mm_kVV (pc := 61) [.int 41] dX6_lesserOrGreater_61 kX6_108 rfl (sh_Rd ha) (Nat.le_of_ble_eq_true rfl) (Nat.le_of_ble_eq_true rfl) h (fun m61 hG h => ?_)
    refine mm_aload_n (pc := 64) (j := 1) dX6_lesserOrGreater_64 rfl rfl ?_
    refine mm_iload_n (pc := 65) (j := 0) dX6_lesserOrGreater_65 rfl rfl ?_
    refine mm_kVV (pc := 66) [.int u0] dX6_lesserOrGreater_66 kX6_92 rfl (sh_Rd ha) (Nat.le_of_ble_eq_true rfl) (Nat.le_of_ble_eq_true rfl) h (fun m66 hG h => ?_)
    refine mm_aload_n (pc := 69) (j := 1) dX6_lesserOrGreater_69 rfl rfl ?_
    refine mm_dup (pc := 70) dX6_lesserOrGreater_70 rfl ?_
    refine mm_getI (pc := 71) (ci := 6) (N := 15) dX6_lesserOrGreater_71 fX6_40 (sh_Rd ha) rfl ?_
    refine mm_iconst (pc := 74) (x := 1) dX6_lesserOrGreater_74 rfl ?_
    refine mm_isub (pc := 75) dX6_lesserOrGreater_75 ?_
    refine mm_putI (pc := 76) (ci := 6) (N := 15) dX6_lesserOrGreater_76 fX6_40 (sh_Rd ha) (by decide +kernel) rfl rfl rfl ?_
    exact mm_vret (pc := 79) dX6_lesserOrGreater_79 rfl (Nat.le_refl 0) (Nat.le_refl 0) ⟨rfl, rfl, hG, h⟩
  · have h := mm_ift hc h
    refine mm_aload_n (pc := 30) (j := 1) dX6_lesserOrGreater_30 rfl rfl ?_
    refine mm_iconst (pc := 31) (x := 1) dX6_lesserOrGreater_31 rfl ?_
    refine mm_aload_n (pc := 32) (j := 1) dX6_lesserOrGreater_32 rfl rfl ?_
    refine mm_getI (pc := 33) (ci := 6) (N := 15) dX6_lesserOrGreater_33 fX6_49 (sh_Rd ha) rfl ?_
    refine mm_kVV (pc := 36) [.int 1, .int (m24.1 a 4)] dX6_lesserOrGreater_36 kX6_79 rfl (sh_Rd ha) (Nat.le_of_ble_eq_true rfl) (Nat.le_of_ble_eq_true rfl) h (fun m36 hG h => ?_)
    exact mm_vret (pc := 39) dX6_lesserOrGreater_39 rfl (Nat.le_refl 0) (Nat.le_refl 0) ⟨rfl, rfl, hG, h⟩
set_option maxRecDepth 100000 in
set_option maxHeartbeats 4000000 in
theorem rX6_sumIfFine {d : Nat} {a : Nat} {M : mm_M} {K : mm_M → Prop} (ha : a ∈ mm_Rds) (hG : mm_G M.2.2) (h : if (M.1 a 8) = 0 then (mm_CV mX6_sum d [.ref a] M (fun m8 => K m8)) else (K M)) : mm_CV mX6_sumIfFine (d + 1) [.ref a] M K := by
  show mm_W mX6_sumIfFine (d + 1) 0 0 0 [(0, .ref a)] [] mm_SH M 0 0 (mm_PV K)
  refine mm_aload_n (pc := 0) (j := 0) dX6_sumIfFine_0 rfl rfl ?_
  refine mm_getI (pc := 1) (ci := 6) (N := 15) dX6_sumIfFine_1 fX6_34 (sh_Rd ha) rfl ?_
  refine mm_if_ne (pc := 4) (tgt := 11) dX6_sumIfFine_4 (by decide) (fun hc => ?_) (fun hc => ?_)
  · have h := mm_iff hc h
    exact mm_vret (pc := 11) dX6_sumIfFine_11 rfl (Nat.le_refl 0) (Nat.le_refl 0) ⟨rfl, rfl, hG, h⟩
  · have h := mm_ift hc h
    refine mm_aload_n (pc := 7) (j := 0) dX6_sumIfFine_7 rfl rfl ?_
    refine mm_kVV (pc := 8) [] dX6_sumIfFine_8 kX6_112 rfl (sh_Rd ha) (Nat.le_of_ble_eq_true rfl) (Nat.le_of_ble_eq_true rfl) h (fun m8 hG h => ?_)
    exact mm_vret (pc := 11) dX6_sumIfFine_11 rfl (Nat.le_refl 0) (Nat.le_refl 0) ⟨rfl, rfl, hG, h⟩
set_option maxRecDepth 100000 in
set_option maxHeartbeats 4000000 in
theorem rX6_openNext {d : Nat} {a : Nat} {M : mm_M} {K : mm_M → Prop} (ha : a ∈ mm_Rds) (hG : mm_G M.2.2) (h : if (M.1 a 10) < 6 then (mm_CV mX6_next d [.ref a] M (fun m22 => K (mm_uI m22 a 10 ((m22.1 a 10) + 1)))) else (mm_CV mX6_refuse d [.ref a, .int 4, .int (M.1 a 4)] M (fun m15 => K (mm_uI m15 a 10 ((m15.1 a 10) + 1))))) : mm_CV mX6_openNext (d + 1) [.ref a] M K := by
  show mm_W mX6_openNext (d + 1) 0 0 0 [(0, .ref a)] [] mm_SH M 0 0 (mm_PV K)
  refine mm_aload_n (pc := 0) (j := 0) dX6_openNext_0 rfl rfl ?_
  refine mm_getI (pc := 1) (ci := 6) (N := 15) dX6_openNext_1 fX6_40 (sh_Rd ha) rfl ?_
  refine mm_bipush (pc := 4) (x := 6) dX6_openNext_4 rfl ?_
  refine mm_icmp_lt (pc := 6) (tgt := 21) dX6_openNext_6 (by decide) (fun hc => ?_) (fun hc => ?_)
  · have h := mm_ift hc h
    refine mm_aload_n (pc := 21) (j := 0) dX6_openNext_21 rfl rfl ?_
    refine mm_kVV (pc := 22) [] dX6_openNext_22 kX6_43 rfl (sh_Rd ha) (Nat.le_of_ble_eq_true rfl) (Nat.le_of_ble_eq_true rfl) h (fun m22 hG h => ?_)
    refine mm_aload_n (pc := 25) (j := 0) dX6_openNext_25 rfl rfl ?_
    refine mm_dup (pc := 26) dX6_openNext_26 rfl ?_
    refine mm_getI (pc := 27) (ci := 6) (N := 15) dX6_openNext_27 fX6_40 (sh_Rd ha) rfl ?_
    refine mm_iconst (pc := 30) (x := 1) dX6_openNext_30 rfl ?_
    refine mm_iadd (pc := 31) dX6_openNext_31 ?_
    refine mm_putI (pc := 32) (ci := 6) (N := 15) dX6_openNext_32 fX6_40 (sh_Rd ha) (by decide +kernel) rfl rfl rfl ?_
    exact mm_vret (pc := 35) dX6_openNext_35 rfl (Nat.le_refl 0) (Nat.le_refl 0) ⟨rfl, rfl, hG, h⟩
  · have h := mm_iff hc h
    refine mm_aload_n (pc := 9) (j := 0) dX6_openNext_9 rfl rfl ?_
    refine mm_iconst (pc := 10) (x := 4) dX6_openNext_10 rfl ?_
    refine mm_aload_n (pc := 11) (j := 0) dX6_openNext_11 rfl rfl ?_
    refine mm_getI (pc := 12) (ci := 6) (N := 15) dX6_openNext_12 fX6_49 (sh_Rd ha) rfl ?_
    refine mm_kVV (pc := 15) [.int 4, .int (M.1 a 4)] dX6_openNext_15 kX6_79 rfl (sh_Rd ha) (Nat.le_of_ble_eq_true rfl) (Nat.le_of_ble_eq_true rfl) h (fun m15 hG h => ?_)
    refine mm_goto (pc := 18) (tgt := 25) dX6_openNext_18 (by decide) ?_
    refine mm_aload_n (pc := 25) (j := 0) dX6_openNext_25 rfl rfl ?_
    refine mm_dup (pc := 26) dX6_openNext_26 rfl ?_
    refine mm_getI (pc := 27) (ci := 6) (N := 15) dX6_openNext_27 fX6_40 (sh_Rd ha) rfl ?_
    refine mm_iconst (pc := 30) (x := 1) dX6_openNext_30 rfl ?_
    refine mm_iadd (pc := 31) dX6_openNext_31 ?_
    refine mm_putI (pc := 32) (ci := 6) (N := 15) dX6_openNext_32 fX6_40 (sh_Rd ha) (by decide +kernel) rfl rfl rfl ?_
    exact mm_vret (pc := 35) dX6_openNext_35 rfl (Nat.le_refl 0) (Nat.le_refl 0) ⟨rfl, rfl, hG, h⟩
set_option maxRecDepth 100000 in
set_option maxHeartbeats 4000000 in
theorem rX6_emit {d : Nat} {a : Nat} {x1 : Int32} {M : mm_M} {K : mm_M → Prop} (ha : a ∈ mm_Rds) (hG : mm_G M.2.2) (h : if (M.1 a 14) < 0 then (K M) else (∃ q12 : Nat, M.2.2 a 13 = some q12 ∧ mm_SH[q12]? = some (0, 1608) ∧ if (nI 1608) ≤ (M.1 a 14) then (K M) else (∃ q20 : Nat, M.2.2 a 13 = some q20 ∧ mm_SH[q20]? = some (0, 1608) ∧ vp_in (M.1 a 14) 1608 ∧ K (mm_uI (mm_uI M q20 (M.1 a 14).toNatClampNeg x1) a 14 (((mm_uI M q20 (M.1 a 14).toNatClampNeg x1).1 a 14) + 1))))) : mm_CV mX6_emit d [.ref a, .int x1] M K := by
  show mm_W mX6_emit d 0 0 0 [(0, .ref a), (1, .int x1)] [] mm_SH M 0 0 (mm_PV K)
  refine mm_aload_n (pc := 0) (j := 0) dX6_emit_0 rfl rfl ?_
  refine mm_getI (pc := 1) (ci := 6) (N := 15) dX6_emit_1 fX6_28 (sh_Rd ha) rfl ?_
  refine mm_if_lt (pc := 4) (tgt := 39) dX6_emit_4 (by decide) (fun hc => ?_) (fun hc => ?_)
  · have h := mm_ift hc h
    exact mm_vret (pc := 39) dX6_emit_39 rfl (Nat.le_refl 0) (Nat.le_refl 0) ⟨rfl, rfl, hG, h⟩
  · have h := mm_iff hc h
    refine mm_aload_n (pc := 7) (j := 0) dX6_emit_7 rfl rfl ?_
    refine mm_getI (pc := 8) (ci := 6) (N := 15) dX6_emit_8 fX6_28 (sh_Rd ha) rfl ?_
    refine mm_aload_n (pc := 11) (j := 0) dX6_emit_11 rfl rfl ?_
    obtain ⟨q12, he12, hq12, h⟩ := h
    refine mm_getR (pc := 12) (ci := 6) (N := 15) (r := q12) dX6_emit_12 fX6_15 (sh_Rd ha) rfl he12 ?_
    refine mm_alen (pc := 15) (t := 0) (N := 1608) dX6_emit_15 hq12 (by decide) ?_
    refine mm_icmp_ge (pc := 16) (tgt := 39) dX6_emit_16 (by decide) (fun hc => ?_) (fun hc => ?_)
    · have h := mm_ift hc h
      exact mm_vret (pc := 39) dX6_emit_39 rfl (Nat.le_refl 0) (Nat.le_refl 0) ⟨rfl, rfl, hG, h⟩
    · have h := mm_iff hc h
      refine mm_aload_n (pc := 19) (j := 0) dX6_emit_19 rfl rfl ?_
      obtain ⟨q20, he20, hq20, h⟩ := h
      refine mm_getR (pc := 20) (ci := 6) (N := 15) (r := q20) dX6_emit_20 fX6_15 (sh_Rd ha) rfl he20 ?_
      refine mm_aload_n (pc := 23) (j := 0) dX6_emit_23 rfl rfl ?_
      refine mm_getI (pc := 24) (ci := 6) (N := 15) dX6_emit_24 fX6_28 (sh_Rd ha) rfl ?_
      refine mm_iload_n (pc := 27) (j := 1) dX6_emit_27 rfl rfl ?_
      obtain ⟨hi28, h⟩ := h
      refine mm_iastore (pc := 28) (N := 1608) dX6_emit_28 hq20 hi28 ?_
      refine mm_aload_n (pc := 29) (j := 0) dX6_emit_29 rfl rfl ?_
      refine mm_dup (pc := 30) dX6_emit_30 rfl ?_
      refine mm_getI (pc := 31) (ci := 6) (N := 15) dX6_emit_31 fX6_28 (sh_Rd ha) rfl ?_
      refine mm_iconst (pc := 34) (x := 1) dX6_emit_34 rfl ?_
      refine mm_iadd (pc := 35) dX6_emit_35 ?_
      refine mm_putI (pc := 36) (ci := 6) (N := 15) dX6_emit_36 fX6_28 (sh_Rd ha) (by decide +kernel) rfl rfl rfl ?_
      exact mm_vret (pc := 39) dX6_emit_39 rfl (Nat.le_refl 0) (Nat.le_refl 0) ⟨rfl, rfl, hG, h⟩
def jX6_skipBlanks_5 (d : Nat) (a : Nat) (M : mm_M) (K : mm_M → Prop) (y1 : Int32) : Prop := mm_W mX6_skipBlanks d 0 0 5 [(0, .ref a), (1, .int y1)] [] mm_SH M 0 0 (mm_PV K)
set_option maxRecDepth 100000 in
set_option maxHeartbeats 4000000 in
theorem rX6_skipBlanks {d : Nat} {a : Nat} {M : mm_M} {K : mm_M → Prop} (ha : a ∈ mm_Rds) (hG : mm_G M.2.2) (h : jX6_skipBlanks_5 d a M K (M.1 a 2)) : mm_CV mX6_skipBlanks d [.ref a] M K := by
  show mm_W mX6_skipBlanks d 0 0 0 [(0, .ref a)] [] mm_SH M 0 0 (mm_PV K)
  refine mm_aload_n (pc := 0) (j := 0) dX6_skipBlanks_0 rfl rfl ?_
  refine mm_getI (pc := 1) (ci := 6) (N := 15) dX6_skipBlanks_1 fX6_31 (sh_Rd ha) rfl ?_
  refine mm_istore_n (pc := 4) (lv' := [(1, .int (M.1 a 2)), (0, .ref a)]) dX6_skipBlanks_4 rfl (by decide) rfl ?_
  exact mm_sub [1, 0] rfl h
set_option maxRecDepth 100000 in
set_option maxHeartbeats 4000000 in
theorem lX6_skipBlanks_5 {d : Nat} {a : Nat} {M : mm_M} {K : mm_M → Prop} {y1 : Int32} (ha : a ∈ mm_Rds) (hG : mm_G M.2.2) (h : if y1 < 0 then (K M) else (if (M.1 a 1) ≤ y1 then (K M) else (M.2.2 a 0 = some 1 ∧ vp_in y1 1600 ∧ if (M.1 1 y1.toNatClampNeg) = 10 then (jX6_skipBlanks_5 d a (mm_uI M a 2 (y1 + 1)) K (y1 + 1)) else (M.2.2 a 0 = some 1 ∧ vp_in y1 1600 ∧ if (M.1 1 y1.toNatClampNeg) = 32 then (jX6_skipBlanks_5 d a (mm_uI M a 2 (y1 + 1)) K (y1 + 1)) else (K M))))) : jX6_skipBlanks_5 d a M K y1 := by
  unfold jX6_skipBlanks_5
  refine mm_iload_n (pc := 5) (j := 1) dX6_skipBlanks_5 rfl rfl ?_
  refine mm_if_lt (pc := 6) (tgt := 52) dX6_skipBlanks_6 (by decide) (fun hc => ?_) (fun hc => ?_)
  · have h := mm_ift hc h
    exact mm_vret (pc := 52) dX6_skipBlanks_52 rfl (Nat.le_refl 0) (Nat.le_refl 0) ⟨rfl, rfl, hG, h⟩
  · have h := mm_iff hc h
    refine mm_iload_n (pc := 9) (j := 1) dX6_skipBlanks_9 rfl rfl ?_
    refine mm_aload_n (pc := 10) (j := 0) dX6_skipBlanks_10 rfl rfl ?_
    refine mm_getI (pc := 11) (ci := 6) (N := 15) dX6_skipBlanks_11 fX6_24 (sh_Rd ha) rfl ?_
    refine mm_icmp_ge (pc := 14) (tgt := 52) dX6_skipBlanks_14 (by decide) (fun hc => ?_) (fun hc => ?_)
    · have h := mm_ift hc h
      exact mm_vret (pc := 52) dX6_skipBlanks_52 rfl (Nat.le_refl 0) (Nat.le_refl 0) ⟨rfl, rfl, hG, h⟩
    · have h := mm_iff hc h
      refine mm_aload_n (pc := 17) (j := 0) dX6_skipBlanks_17 rfl rfl ?_
      obtain ⟨hq18, h⟩ := h
      refine mm_getR (pc := 18) (ci := 6) (N := 15) (r := 1) dX6_skipBlanks_18 fX6_9 (sh_Rd ha) rfl hq18 ?_
      refine mm_iload_n (pc := 21) (j := 1) dX6_skipBlanks_21 rfl rfl ?_
      obtain ⟨hi22, h⟩ := h
      refine mm_iaload (pc := 22) (N := 1600) dX6_skipBlanks_22 sh_1 hi22 ?_
      refine mm_bipush (pc := 23) (x := 10) dX6_skipBlanks_23 rfl ?_
      refine mm_icmp_eq (pc := 25) (tgt := 39) dX6_skipBlanks_25 (by decide) (fun hc => ?_) (fun hc => ?_)
      · have h := mm_ift hc h
        refine mm_aload_n (pc := 39) (j := 0) dX6_skipBlanks_39 rfl rfl ?_
        refine mm_iload_n (pc := 40) (j := 1) dX6_skipBlanks_40 rfl rfl ?_
        refine mm_iconst (pc := 41) (x := 1) dX6_skipBlanks_41 rfl ?_
        refine mm_iadd (pc := 42) dX6_skipBlanks_42 ?_
        refine mm_putI (pc := 43) (ci := 6) (N := 15) dX6_skipBlanks_43 fX6_31 (sh_Rd ha) (by decide +kernel) rfl rfl rfl ?_
        refine mm_iinc (pc := 46) (j := 1) (v := y1 + 1) (lv' := [(1, .int (y1 + 1)), (0, .ref a)]) dX6_skipBlanks_46 rfl rfl (by decide) rfl ?_
        refine mm_goto (pc := 49) (tgt := 5) dX6_skipBlanks_49 (by decide) ?_
        exact mm_sub [1, 0] rfl h
      · have h := mm_iff hc h
        refine mm_aload_n (pc := 28) (j := 0) dX6_skipBlanks_28 rfl rfl ?_
        obtain ⟨hq29, h⟩ := h
        refine mm_getR (pc := 29) (ci := 6) (N := 15) (r := 1) dX6_skipBlanks_29 fX6_9 (sh_Rd ha) rfl hq29 ?_
        refine mm_iload_n (pc := 32) (j := 1) dX6_skipBlanks_32 rfl rfl ?_
        obtain ⟨hi33, h⟩ := h
        refine mm_iaload (pc := 33) (N := 1600) dX6_skipBlanks_33 sh_1 hi33 ?_
        refine mm_bipush (pc := 34) (x := 32) dX6_skipBlanks_34 rfl ?_
        refine mm_icmp_ne (pc := 36) (tgt := 52) dX6_skipBlanks_36 (by decide) (fun hc => ?_) (fun hc => ?_)
        · have h := mm_iff hc h
          exact mm_vret (pc := 52) dX6_skipBlanks_52 rfl (Nat.le_refl 0) (Nat.le_refl 0) ⟨rfl, rfl, hG, h⟩
        · have h := mm_ift hc h
          refine mm_aload_n (pc := 39) (j := 0) dX6_skipBlanks_39 rfl rfl ?_
          refine mm_iload_n (pc := 40) (j := 1) dX6_skipBlanks_40 rfl rfl ?_
          refine mm_iconst (pc := 41) (x := 1) dX6_skipBlanks_41 rfl ?_
          refine mm_iadd (pc := 42) dX6_skipBlanks_42 ?_
          refine mm_putI (pc := 43) (ci := 6) (N := 15) dX6_skipBlanks_43 fX6_31 (sh_Rd ha) (by decide +kernel) rfl rfl rfl ?_
          refine mm_iinc (pc := 46) (j := 1) (v := y1 + 1) (lv' := [(1, .int (y1 + 1)), (0, .ref a)]) dX6_skipBlanks_46 rfl rfl (by decide) rfl ?_
          refine mm_goto (pc := 49) (tgt := 5) dX6_skipBlanks_49 (by decide) ?_
          exact mm_sub [1, 0] rfl h
def jX6_firstDigits_7 (d : Nat) (a : Nat) (M : mm_M) (K : Int32 → mm_M → Prop) (y1 : Int32) (y2 : Int32) : Prop := mm_W mX6_firstDigits d 0 0 7 [(0, .ref a), (1, .int y1), (2, .int y2)] [] mm_SH M 0 0 (mm_PI K)
set_option maxRecDepth 100000 in
set_option maxHeartbeats 4000000 in
theorem rX6_firstDigits {d : Nat} {a : Nat} {M : mm_M} {K : Int32 → mm_M → Prop} (ha : a ∈ mm_Rds) (hG : mm_G M.2.2) (h : jX6_firstDigits_7 d a M K 0 (M.1 a 4)) : mm_CI mX6_firstDigits d [.ref a] M K := by
  show mm_W mX6_firstDigits d 0 0 0 [(0, .ref a)] [] mm_SH M 0 0 (mm_PI K)
  refine mm_iconst (pc := 0) (x := 0) dX6_firstDigits_0 rfl ?_
  refine mm_istore_n (pc := 1) (lv' := [(1, .int 0), (0, .ref a)]) dX6_firstDigits_1 rfl (by decide) rfl ?_
  refine mm_aload_n (pc := 2) (j := 1) dX6_firstDigits_2 rfl rfl ?_
  refine mm_getI (pc := 3) (ci := 6) (N := 15) dX6_firstDigits_3 fX6_49 (sh_Rd ha) rfl ?_
  refine mm_istore_n (pc := 6) (lv' := [(2, .int (M.1 a 4)), (1, .int 0), (0, .ref a)]) dX6_firstDigits_6 rfl (by decide) rfl ?_
  exact mm_sub [2, 1, 0] rfl h
set_option maxRecDepth 100000 in
set_option maxHeartbeats 4000000 in
theorem lX6_firstDigits_7 {d : Nat} {a : Nat} {M : mm_M} {K : Int32 → mm_M → Prop} {y1 : Int32} {y2 : Int32} (ha : a ∈ mm_Rds) (hG : mm_G M.2.2) (h : if y2 < 0 then (K y1 M) else (if (M.1 a 2) ≤ y2 then (K y1 M) else (if ((M.1 a 4) + 4) ≤ y2 then (K y1 M) else (M.2.2 a 0 = some 1 ∧ vp_in y2 1600 ∧ jX6_firstDigits_7 d a M K (((10 * y1) + (M.1 1 y2.toNatClampNeg)) - 48) (y2 + 1))))) : jX6_firstDigits_7 d a M K y1 y2 := by
  unfold jX6_firstDigits_7
  refine mm_iload_n (pc := 7) (j := 2) dX6_firstDigits_7 rfl rfl ?_
  refine mm_if_lt (pc := 8) (tgt := 50) dX6_firstDigits_8 (by decide) (fun hc => ?_) (fun hc => ?_)
  · have h := mm_ift hc h
    refine mm_iload_n (pc := 50) (j := 1) dX6_firstDigits_50 rfl rfl ?_
    exact mm_iret (pc := 51) dX6_firstDigits_51 rfl (Nat.le_refl 0) (Nat.le_refl 0) ⟨_, rfl, rfl, hG, h⟩
  · have h := mm_iff hc h
    refine mm_iload_n (pc := 11) (j := 2) dX6_firstDigits_11 rfl rfl ?_
    refine mm_aload_n (pc := 12) (j := 0) dX6_firstDigits_12 rfl rfl ?_
    refine mm_getI (pc := 13) (ci := 6) (N := 15) dX6_firstDigits_13 fX6_31 (sh_Rd ha) rfl ?_
    refine mm_icmp_ge (pc := 16) (tgt := 50) dX6_firstDigits_16 (by decide) (fun hc => ?_) (fun hc => ?_)
    · have h := mm_ift hc h
      refine mm_iload_n (pc := 50) (j := 1) dX6_firstDigits_50 rfl rfl ?_
      exact mm_iret (pc := 51) dX6_firstDigits_51 rfl (Nat.le_refl 0) (Nat.le_refl 0) ⟨_, rfl, rfl, hG, h⟩
    · have h := mm_iff hc h
      refine mm_iload_n (pc := 19) (j := 2) dX6_firstDigits_19 rfl rfl ?_
      refine mm_aload_n (pc := 20) (j := 0) dX6_firstDigits_20 rfl rfl ?_
      refine mm_getI (pc := 21) (ci := 6) (N := 15) dX6_firstDigits_21 fX6_49 (sh_Rd ha) rfl ?_
      refine mm_iconst (pc := 24) (x := 4) dX6_firstDigits_24 rfl ?_
      refine mm_iadd (pc := 25) dX6_firstDigits_25 ?_
      refine mm_icmp_ge (pc := 26) (tgt := 50) dX6_firstDigits_26 (by decide) (fun hc => ?_) (fun hc => ?_)
      · have h := mm_ift hc h
        refine mm_iload_n (pc := 50) (j := 1) dX6_firstDigits_50 rfl rfl ?_
        exact mm_iret (pc := 51) dX6_firstDigits_51 rfl (Nat.le_refl 0) (Nat.le_refl 0) ⟨_, rfl, rfl, hG, h⟩
      · have h := mm_iff hc h
        refine mm_bipush (pc := 29) (x := 10) dX6_firstDigits_29 rfl ?_
        refine mm_iload_n (pc := 31) (j := 1) dX6_firstDigits_31 rfl rfl ?_
        refine mm_imul (pc := 32) dX6_firstDigits_32 ?_
        refine mm_aload_n (pc := 33) (j := 0) dX6_firstDigits_33 rfl rfl ?_
        obtain ⟨hq34, h⟩ := h
        refine mm_getR (pc := 34) (ci := 6) (N := 15) (r := 1) dX6_firstDigits_34 fX6_9 (sh_Rd ha) rfl hq34 ?_
        refine mm_iload_n (pc := 37) (j := 2) dX6_firstDigits_37 rfl rfl ?_
        obtain ⟨hi38, h⟩ := h
        refine mm_iaload (pc := 38) (N := 1600) dX6_firstDigits_38 sh_1 hi38 ?_
        refine mm_iadd (pc := 39) dX6_firstDigits_39 ?_
        refine mm_bipush (pc := 40) (x := 48) dX6_firstDigits_40 rfl ?_
        refine mm_isub (pc := 42) dX6_firstDigits_42 ?_
        refine mm_istore_n (pc := 43) (lv' := [(1, .int (((10 * y1) + (M.1 1 y2.toNatClampNeg)) - 48)), (0, .ref a), (2, .int y2)]) dX6_firstDigits_43 rfl (by decide) rfl ?_
        refine mm_iinc (pc := 44) (j := 2) (v := y2 + 1) (lv' := [(2, .int (y2 + 1)), (1, .int (((10 * y1) + (M.1 1 y2.toNatClampNeg)) - 48)), (0, .ref a)]) dX6_firstDigits_44 rfl rfl (by decide) rfl ?_
        refine mm_goto (pc := 47) (tgt := 7) dX6_firstDigits_47 (by decide) ?_
        exact mm_sub [2, 1, 0] rfl h
def jX6_wordNumber_6 (d : Nat) (a : Nat) (M : mm_M) (K : Int32 → mm_M → Prop) (y1 : Int32) (y2 : Int32) (y3 : Int32) : Prop := mm_W mX6_wordNumber (d + 4) 0 0 6 [(0, .ref a), (1, .int y1), (2, .int y2), (3, .int y3)] [] mm_SH M 0 0 (mm_PI K)
set_option maxRecDepth 100000 in
set_option maxHeartbeats 4000000 in
theorem rX6_wordNumber {d : Nat} {a : Nat} {M : mm_M} {K : Int32 → mm_M → Prop} (ha : a ∈ mm_Rds) (hG : mm_G M.2.2) (h : jX6_wordNumber_6 d a M K 0 0 0) : mm_CI mX6_wordNumber (d + 4) [.ref a] M K := by
  show mm_W mX6_wordNumber (d + 4) 0 0 0 [(0, .ref a)] [] mm_SH M 0 0 (mm_PI K)
  refine mm_iconst (pc := 0) (x := 0) dX6_wordNumber_0 rfl ?_
  refine mm_istore_n (pc := 1) (lv' := [(1, .int 0), (0, .ref a)]) dX6_wordNumber_1 rfl (by decide) rfl ?_
  refine mm_iconst (pc := 2) (x := 0) dX6_wordNumber_2 rfl ?_
  refine mm_istore_n (pc := 3) (lv' := [(2, .int 0), (1, .int 0), (0, .ref a)]) dX6_wordNumber_3 rfl (by decide) rfl ?_
  refine mm_iconst (pc := 4) (x := 0) dX6_wordNumber_4 rfl ?_
  refine mm_istore_n (pc := 5) (lv' := [(3, .int 0), (2, .int 0), (1, .int 0), (0, .ref a)]) dX6_wordNumber_5 rfl (by decide) rfl ?_
  exact mm_sub [3, 2, 1, 0] rfl h
set_option maxRecDepth 100000 in
set_option maxHeartbeats 4000000 in
theorem lX6_wordNumber_6 {d : Nat} {a : Nat} {M : mm_M} {K : Int32 → mm_M → Prop} {y1 : Int32} {y2 : Int32} {y3 : Int32} (ha : a ∈ mm_Rds) (hG : mm_G M.2.2) (h : if 165 ≤ y3 then (K (-1) M) else (vp_in y3 165 ∧ if (mm_ch y3) = 32 then (if y2 = ((M.1 a 2) - (M.1 a 4)) then (K y1 M) else (jX6_wordNumber_6 d a M K (y1 + 1) 0 (y3 + 1))) else (if y2 < 0 then (jX6_wordNumber_6 d a M K y1 (-1) (y3 + 1)) else (if ((M.1 a 4) + y2) < 0 then (jX6_wordNumber_6 d a M K y1 (-1) (y3 + 1)) else (if (M.1 a 2) ≤ ((M.1 a 4) + y2) then (jX6_wordNumber_6 d a M K y1 (-1) (y3 + 1)) else (M.2.2 a 0 = some 1 ∧ vp_in ((M.1 a 4) + y2) 1600 ∧ if (M.1 1 ((M.1 a 4) + y2).toNatClampNeg) = (mm_ch y3) then (jX6_wordNumber_6 d a M K y1 (y2 + 1) (y3 + 1)) else (jX6_wordNumber_6 d a M K y1 (-1) (y3 + 1)))))))) : jX6_wordNumber_6 d a M K y1 y2 y3 := by
  unfold jX6_wordNumber_6
  refine mm_iload_n (pc := 6) (j := 3) dX6_wordNumber_6 rfl rfl ?_
  refine mm_strlen (pc := 7) rfl dX6_wordNumber_7 dX6_wordNumber_9 kS_length (Nat.le_of_ble_eq_true rfl) (Nat.le_refl 0) (Nat.le_refl 0) ?_
  refine mm_icmp_ge (pc := 12) (tgt := 105) dX6_wordNumber_12 (by decide) (fun hc => ?_) (fun hc => ?_)
  · have h := mm_ift hc h
    refine mm_iconst (pc := 105) (x := (-1)) dX6_wordNumber_105 rfl ?_
    exact mm_iret (pc := 106) dX6_wordNumber_106 rfl (Nat.le_refl 0) (Nat.le_refl 0) ⟨_, rfl, rfl, hG, h⟩
  · have h := mm_iff hc h
    obtain ⟨hi15, h⟩ := h
    refine mm_strchar (pc := 15) (j := 3) rfl dX6_wordNumber_15 dX6_wordNumber_17 rfl rfl dX6_wordNumber_18 kS_charAt hi15 (Nat.le_of_ble_eq_true rfl) (Nat.le_refl 0) (Nat.le_refl 0) ?_
    refine mm_istore (pc := 21) (lv' := [(4, .int (mm_ch y3)), (0, .ref a), (1, .int y1), (2, .int y2), (3, .int y3)]) dX6_wordNumber_21 (by decide) rfl ?_
    refine mm_aload_n (pc := 23) (j := 1) dX6_wordNumber_23 rfl rfl ?_
    refine mm_getI (pc := 24) (ci := 6) (N := 15) dX6_wordNumber_24 fX6_49 (sh_Rd ha) rfl ?_
    refine mm_iload_n (pc := 27) (j := 3) dX6_wordNumber_27 rfl rfl ?_
    refine mm_iadd (pc := 28) dX6_wordNumber_28 ?_
    refine mm_istore (pc := 29) (lv' := [(5, .int ((M.1 a 4) + y2)), (4, .int (mm_ch y3)), (0, .ref a), (1, .int y1), (2, .int y2), (3, .int y3)]) dX6_wordNumber_29 (by decide) rfl ?_
    refine mm_iload (pc := 31) (j := 1) dX6_wordNumber_31 rfl ?_
    refine mm_bipush (pc := 33) (x := 32) dX6_wordNumber_33 rfl ?_
    refine mm_icmp_ne (pc := 35) (tgt := 61) dX6_wordNumber_35 (by decide) (fun hc => ?_) (fun hc => ?_)
    · have h := mm_iff hc h
      refine mm_iload_n (pc := 61) (j := 4) dX6_wordNumber_61 rfl rfl ?_
      refine mm_if_lt (pc := 62) (tgt := 97) dX6_wordNumber_62 (by decide) (fun hc => ?_) (fun hc => ?_)
      · have h := mm_ift hc h
        refine mm_iconst (pc := 97) (x := (-1)) dX6_wordNumber_97 rfl ?_
        refine mm_istore_n (pc := 98) (lv' := [(2, .int (-1)), (5, .int ((M.1 a 4) + y2)), (4, .int (mm_ch y3)), (0, .ref a), (1, .int y1), (3, .int y3)]) dX6_wordNumber_98 rfl (by decide) rfl ?_
        refine mm_iinc (pc := 99) (j := 5) (v := y3 + 1) (lv' := [(3, .int (y3 + 1)), (2, .int (-1)), (5, .int ((M.1 a 4) + y2)), (4, .int (mm_ch y3)), (0, .ref a), (1, .int y1)]) dX6_wordNumber_99 rfl rfl (by decide) rfl ?_
        refine mm_goto (pc := 102) (tgt := 6) dX6_wordNumber_102 (by decide) ?_
        exact mm_sub [4, 5, 1, 0] rfl h
      · have h := mm_iff hc h
        refine mm_iload (pc := 65) (j := 0) dX6_wordNumber_65 rfl ?_
        refine mm_if_lt (pc := 67) (tgt := 97) dX6_wordNumber_67 (by decide) (fun hc => ?_) (fun hc => ?_)
        · have h := mm_ift hc h
          refine mm_iconst (pc := 97) (x := (-1)) dX6_wordNumber_97 rfl ?_
          refine mm_istore_n (pc := 98) (lv' := [(2, .int (-1)), (5, .int ((M.1 a 4) + y2)), (4, .int (mm_ch y3)), (0, .ref a), (1, .int y1), (3, .int y3)]) dX6_wordNumber_98 rfl (by decide) rfl ?_
          refine mm_iinc (pc := 99) (j := 5) (v := y3 + 1) (lv' := [(3, .int (y3 + 1)), (2, .int (-1)), (5, .int ((M.1 a 4) + y2)), (4, .int (mm_ch y3)), (0, .ref a), (1, .int y1)]) dX6_wordNumber_99 rfl rfl (by decide) rfl ?_
          refine mm_goto (pc := 102) (tgt := 6) dX6_wordNumber_102 (by decide) ?_
          exact mm_sub [4, 5, 1, 0] rfl h
        · have h := mm_iff hc h
          refine mm_iload (pc := 70) (j := 0) dX6_wordNumber_70 rfl ?_
          refine mm_aload_n (pc := 72) (j := 2) dX6_wordNumber_72 rfl rfl ?_
          refine mm_getI (pc := 73) (ci := 6) (N := 15) dX6_wordNumber_73 fX6_31 (sh_Rd ha) rfl ?_
          refine mm_icmp_ge (pc := 76) (tgt := 97) dX6_wordNumber_76 (by decide) (fun hc => ?_) (fun hc => ?_)
          · have h := mm_ift hc h
            refine mm_iconst (pc := 97) (x := (-1)) dX6_wordNumber_97 rfl ?_
            refine mm_istore_n (pc := 98) (lv' := [(2, .int (-1)), (5, .int ((M.1 a 4) + y2)), (4, .int (mm_ch y3)), (0, .ref a), (1, .int y1), (3, .int y3)]) dX6_wordNumber_98 rfl (by decide) rfl ?_
            refine mm_iinc (pc := 99) (j := 5) (v := y3 + 1) (lv' := [(3, .int (y3 + 1)), (2, .int (-1)), (5, .int ((M.1 a 4) + y2)), (4, .int (mm_ch y3)), (0, .ref a), (1, .int y1)]) dX6_wordNumber_99 rfl rfl (by decide) rfl ?_
            refine mm_goto (pc := 102) (tgt := 6) dX6_wordNumber_102 (by decide) ?_
            exact mm_sub [4, 5, 1, 0] rfl h
          · have h := mm_iff hc h
            refine mm_aload_n (pc := 79) (j := 2) dX6_wordNumber_79 rfl rfl ?_
            obtain ⟨hq80, h⟩ := h
            refine mm_getR (pc := 80) (ci := 6) (N := 15) (r := 1) dX6_wordNumber_80 fX6_9 (sh_Rd ha) rfl hq80 ?_
            refine mm_iload (pc := 83) (j := 0) dX6_wordNumber_83 rfl ?_
            obtain ⟨hi85, h⟩ := h
            refine mm_iaload (pc := 85) (N := 1600) dX6_wordNumber_85 sh_1 hi85 ?_
            refine mm_iload (pc := 86) (j := 1) dX6_wordNumber_86 rfl ?_
            refine mm_icmp_ne (pc := 88) (tgt := 97) dX6_wordNumber_88 (by decide) (fun hc => ?_) (fun hc => ?_)
            · have h := mm_iff hc h
              refine mm_iconst (pc := 97) (x := (-1)) dX6_wordNumber_97 rfl ?_
              refine mm_istore_n (pc := 98) (lv' := [(2, .int (-1)), (5, .int ((M.1 a 4) + y2)), (4, .int (mm_ch y3)), (0, .ref a), (1, .int y1), (3, .int y3)]) dX6_wordNumber_98 rfl (by decide) rfl ?_
              refine mm_iinc (pc := 99) (j := 5) (v := y3 + 1) (lv' := [(3, .int (y3 + 1)), (2, .int (-1)), (5, .int ((M.1 a 4) + y2)), (4, .int (mm_ch y3)), (0, .ref a), (1, .int y1)]) dX6_wordNumber_99 rfl rfl (by decide) rfl ?_
              refine mm_goto (pc := 102) (tgt := 6) dX6_wordNumber_102 (by decide) ?_
              exact mm_sub [4, 5, 1, 0] rfl h
            · have h := mm_ift hc h
              refine mm_iinc (pc := 91) (j := 4) (v := y2 + 1) (lv' := [(2, .int (y2 + 1)), (5, .int ((M.1 a 4) + y2)), (4, .int (mm_ch y3)), (0, .ref a), (1, .int y1), (3, .int y3)]) dX6_wordNumber_91 rfl rfl (by decide) rfl ?_
              refine mm_goto (pc := 94) (tgt := 99) dX6_wordNumber_94 (by decide) ?_
              refine mm_iinc (pc := 99) (j := 5) (v := y3 + 1) (lv' := [(3, .int (y3 + 1)), (2, .int (y2 + 1)), (5, .int ((M.1 a 4) + y2)), (4, .int (mm_ch y3)), (0, .ref a), (1, .int y1)]) dX6_wordNumber_99 rfl rfl (by decide) rfl ?_
              refine mm_goto (pc := 102) (tgt := 6) dX6_wordNumber_102 (by decide) ?_
              exact mm_sub [4, 5, 1, 0] rfl h
    · have h := mm_ift hc h
      refine mm_iload_n (pc := 38) (j := 4) dX6_wordNumber_38 rfl rfl ?_
      refine mm_aload_n (pc := 39) (j := 2) dX6_wordNumber_39 rfl rfl ?_
      refine mm_getI (pc := 40) (ci := 6) (N := 15) dX6_wordNumber_40 fX6_31 (sh_Rd ha) rfl ?_
      refine mm_aload_n (pc := 43) (j := 2) dX6_wordNumber_43 rfl rfl ?_
      refine mm_getI (pc := 44) (ci := 6) (N := 15) dX6_wordNumber_44 fX6_49 (sh_Rd ha) rfl ?_
      refine mm_isub (pc := 47) dX6_wordNumber_47 ?_
      refine mm_icmp_ne (pc := 48) (tgt := 53) dX6_wordNumber_48 (by decide) (fun hc => ?_) (fun hc => ?_)
      · have h := mm_iff hc h
        refine mm_iinc (pc := 53) (j := 3) (v := y1 + 1) (lv' := [(1, .int (y1 + 1)), (5, .int ((M.1 a 4) + y2)), (4, .int (mm_ch y3)), (0, .ref a), (2, .int y2), (3, .int y3)]) dX6_wordNumber_53 rfl rfl (by decide) rfl ?_
        refine mm_iconst (pc := 56) (x := 0) dX6_wordNumber_56 rfl ?_
        refine mm_istore_n (pc := 57) (lv' := [(2, .int 0), (1, .int (y1 + 1)), (5, .int ((M.1 a 4) + y2)), (4, .int (mm_ch y3)), (0, .ref a), (3, .int y3)]) dX6_wordNumber_57 rfl (by decide) rfl ?_
        refine mm_goto (pc := 58) (tgt := 99) dX6_wordNumber_58 (by decide) ?_
        refine mm_iinc (pc := 99) (j := 5) (v := y3 + 1) (lv' := [(3, .int (y3 + 1)), (2, .int 0), (1, .int (y1 + 1)), (5, .int ((M.1 a 4) + y2)), (4, .int (mm_ch y3)), (0, .ref a)]) dX6_wordNumber_99 rfl rfl (by decide) rfl ?_
        refine mm_goto (pc := 102) (tgt := 6) dX6_wordNumber_102 (by decide) ?_
        exact mm_sub [5, 2, 1, 0] rfl h
      · have h := mm_ift hc h
        refine mm_iload_n (pc := 51) (j := 3) dX6_wordNumber_51 rfl rfl ?_
        exact mm_iret (pc := 52) dX6_wordNumber_52 rfl (Nat.le_refl 0) (Nat.le_refl 0) ⟨_, rfl, rfl, hG, h⟩
set_option maxRecDepth 100000 in
set_option maxHeartbeats 4000000 in
theorem rX6_kindOf {d : Nat} {x0 : Int32} {M : mm_M} {K : Int32 → mm_M → Prop} (hG : mm_G M.2.2) (h : if x0 < 97 then (if x0 < 48 then (K 3 M) else (if 57 < x0 then (K 3 M) else (K 2 M))) else (if 122 < x0 then (if x0 < 48 then (K 3 M) else (if 57 < x0 then (K 3 M) else (K 2 M))) else (K 1 M))) : mm_CI mX6_kindOf d [.int x0] M K := by
  show mm_W mX6_kindOf d 0 0 0 [(0, .int x0)] [] mm_SH M 0 0 (mm_PI K)
  refine mm_iload_n (pc := 0) (j := 0) dX6_kindOf_0 rfl rfl ?_
  refine mm_bipush (pc := 1) (x := 97) dX6_kindOf_1 rfl ?_
  refine mm_icmp_lt (pc := 3) (tgt := 14) dX6_kindOf_3 (by decide) (fun hc => ?_) (fun hc => ?_)
  · have h := mm_ift hc h
    refine mm_iload_n (pc := 14) (j := 0) dX6_kindOf_14 rfl rfl ?_
    refine mm_bipush (pc := 15) (x := 48) dX6_kindOf_15 rfl ?_
    refine mm_icmp_lt (pc := 17) (tgt := 30) dX6_kindOf_17 (by decide) (fun hc => ?_) (fun hc => ?_)
    · have h := mm_ift hc h
      refine mm_iconst (pc := 30) (x := 3) dX6_kindOf_30 rfl ?_
      exact mm_iret (pc := 31) dX6_kindOf_31 rfl (Nat.le_refl 0) (Nat.le_refl 0) ⟨_, rfl, rfl, hG, h⟩
    · have h := mm_iff hc h
      refine mm_iload_n (pc := 20) (j := 0) dX6_kindOf_20 rfl rfl ?_
      refine mm_bipush (pc := 21) (x := 57) dX6_kindOf_21 rfl ?_
      refine mm_icmp_gt (pc := 23) (tgt := 30) dX6_kindOf_23 (by decide) (fun hc => ?_) (fun hc => ?_)
      · have h := mm_ift hc h
        refine mm_iconst (pc := 30) (x := 3) dX6_kindOf_30 rfl ?_
        exact mm_iret (pc := 31) dX6_kindOf_31 rfl (Nat.le_refl 0) (Nat.le_refl 0) ⟨_, rfl, rfl, hG, h⟩
      · have h := mm_iff hc h
        refine mm_iconst (pc := 26) (x := 2) dX6_kindOf_26 rfl ?_
        refine mm_goto (pc := 27) (tgt := 31) dX6_kindOf_27 (by decide) ?_
        exact mm_iret (pc := 31) dX6_kindOf_31 rfl (Nat.le_refl 0) (Nat.le_refl 0) ⟨_, rfl, rfl, hG, h⟩
  · have h := mm_iff hc h
    refine mm_iload_n (pc := 6) (j := 0) dX6_kindOf_6 rfl rfl ?_
    refine mm_bipush (pc := 7) (x := 122) dX6_kindOf_7 rfl ?_
    refine mm_icmp_gt (pc := 9) (tgt := 14) dX6_kindOf_9 (by decide) (fun hc => ?_) (fun hc => ?_)
    · have h := mm_ift hc h
      refine mm_iload_n (pc := 14) (j := 0) dX6_kindOf_14 rfl rfl ?_
      refine mm_bipush (pc := 15) (x := 48) dX6_kindOf_15 rfl ?_
      refine mm_icmp_lt (pc := 17) (tgt := 30) dX6_kindOf_17 (by decide) (fun hc => ?_) (fun hc => ?_)
      · have h := mm_ift hc h
        refine mm_iconst (pc := 30) (x := 3) dX6_kindOf_30 rfl ?_
        exact mm_iret (pc := 31) dX6_kindOf_31 rfl (Nat.le_refl 0) (Nat.le_refl 0) ⟨_, rfl, rfl, hG, h⟩
      · have h := mm_iff hc h
        refine mm_iload_n (pc := 20) (j := 0) dX6_kindOf_20 rfl rfl ?_
        refine mm_bipush (pc := 21) (x := 57) dX6_kindOf_21 rfl ?_
        refine mm_icmp_gt (pc := 23) (tgt := 30) dX6_kindOf_23 (by decide) (fun hc => ?_) (fun hc => ?_)
        · have h := mm_ift hc h
          refine mm_iconst (pc := 30) (x := 3) dX6_kindOf_30 rfl ?_
          exact mm_iret (pc := 31) dX6_kindOf_31 rfl (Nat.le_refl 0) (Nat.le_refl 0) ⟨_, rfl, rfl, hG, h⟩
        · have h := mm_iff hc h
          refine mm_iconst (pc := 26) (x := 2) dX6_kindOf_26 rfl ?_
          refine mm_goto (pc := 27) (tgt := 31) dX6_kindOf_27 (by decide) ?_
          exact mm_iret (pc := 31) dX6_kindOf_31 rfl (Nat.le_refl 0) (Nat.le_refl 0) ⟨_, rfl, rfl, hG, h⟩
    · have h := mm_iff hc h
      refine mm_iconst (pc := 12) (x := 1) dX6_kindOf_12 rfl ?_
      exact mm_iret (pc := 13) dX6_kindOf_13 rfl (Nat.le_refl 0) (Nat.le_refl 0) ⟨_, rfl, rfl, hG, h⟩
