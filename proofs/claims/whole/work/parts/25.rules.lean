def jX3_spare_19 (d : Nat) (a2 : Nat) (a3 : Nat) (x4 : Int32) (x5 : Int32) (M : mm_M) (K : mm_M → Prop) (y4 : Int32) (y5 : Int32) : Prop := mm_W mX3_spare (d + 1) 0 0 19 [(0, .ref 156), (1, .ref 21), (2, .ref a2), (3, .ref a3), (4, .int y4), (5, .int y5)] [] mm_SH M 0 0 (mm_PV K)
def jX3_spare_49 (d : Nat) (a2 : Nat) (a3 : Nat) (x4 : Int32) (x5 : Int32) (M : mm_M) (K : mm_M → Prop) (y4 : Int32) (y6 : Int32) : Prop := mm_W mX3_spare (d + 1) 0 0 49 [(0, .ref 156), (1, .ref 21), (2, .ref a2), (3, .ref a3), (4, .int y4), (6, .int y6)] [] mm_SH M 0 0 (mm_PV K)
def jX3_spare_81 (d : Nat) (a2 : Nat) (a3 : Nat) (x4 : Int32) (x5 : Int32) (M : mm_M) (K : mm_M → Prop) (y4 : Int32) (y6 : Int32) (y7 : Int32) : Prop := mm_W mX3_spare (d + 1) 0 0 81 [(0, .ref 156), (1, .ref 21), (2, .ref a2), (3, .ref a3), (4, .int y4), (6, .int y6), (7, .int y7)] [] mm_SH M 0 0 (mm_PV K)
def jX3_spare_89 (d : Nat) (a2 : Nat) (a3 : Nat) (x4 : Int32) (x5 : Int32) (M : mm_M) (K : mm_M → Prop) (y4 : Int32) (y6 : Int32) (y7 : Int32) (y8 : Int32) : Prop := mm_W mX3_spare (d + 1) 0 0 89 [(0, .ref 156), (1, .ref 21), (2, .ref a2), (3, .ref a3), (4, .int y4), (6, .int y6), (7, .int y7), (8, .int y8)] [] mm_SH M 0 0 (mm_PV K)
set_option maxRecDepth 100000 in
set_option maxHeartbeats 4000000 in
theorem rX3_spare {d : Nat} {a2 : Nat} {a3 : Nat} {x4 : Int32} {x5 : Int32} {M : mm_M} {K : mm_M → Prop} (ha2 : a2 ∈ mm_Sts) (ha3 : a3 ∈ mm_Sts) (hG : mm_G M.2.2) (h : if (M.1 156 3) = x5 then (if (M.1 156 4) = x4 then (K M) else (jX3_spare_19 d a2 a3 x4 x5 M K x4 x5)) else (jX3_spare_19 d a2 a3 x4 x5 M K x4 x5)) : mm_CV mX3_spare (d + 1) [.ref 156, .ref 21, .ref a2, .ref a3, .int x4, .int x5] M K := by
  show mm_W mX3_spare (d + 1) 0 0 0 [(0, .ref 156), (1, .ref 21), (2, .ref a2), (3, .ref a3), (4, .int x4), (5, .int x5)] [] mm_SH M 0 0 (mm_PV K)
  refine mm_aload_n (pc := 0) (j := 0) dX3_spare_0 rfl rfl ?_
  refine mm_getI (pc := 1) (ci := 3) (N := 6) dX3_spare_1 fX3_15 sh_156 rfl ?_
  refine mm_iload (pc := 4) (j := 5) dX3_spare_4 rfl ?_
  refine mm_icmp_ne (pc := 6) (tgt := 19) dX3_spare_6 (by decide) (fun hc => ?_) (fun hc => ?_)
  · have h := mm_iff hc h
    exact h
  · have h := mm_ift hc h
    refine mm_aload_n (pc := 9) (j := 0) dX3_spare_9 rfl rfl ?_
    refine mm_getI (pc := 10) (ci := 3) (N := 6) dX3_spare_10 fX3_22 sh_156 rfl ?_
    refine mm_iload (pc := 13) (j := 4) dX3_spare_13 rfl ?_
    refine mm_icmp_ne (pc := 15) (tgt := 19) dX3_spare_15 (by decide) (fun hc => ?_) (fun hc => ?_)
    · have h := mm_iff hc h
      exact h
    · have h := mm_ift hc h
      exact mm_vret (pc := 18) dX3_spare_18 rfl (Nat.le_refl 0) (Nat.le_refl 0) ⟨rfl, rfl, hG, h⟩
set_option maxRecDepth 100000 in
set_option maxHeartbeats 4000000 in
theorem lX3_spare_19 {d : Nat} {a2 : Nat} {a3 : Nat} {x4 : Int32} {x5 : Int32} {M : mm_M} {K : mm_M → Prop} {y4 : Int32} {y5 : Int32} (ha2 : a2 ∈ mm_Sts) (ha3 : a3 ∈ mm_Sts) (hG : mm_G M.2.2) (h : mm_CV mX3_listFeuds d [.ref 156, .ref a2] (mm_uI (mm_uI (mm_uI M 156 3 y5) 156 4 y4) 156 0 0) (fun m38 => mm_CV mX9_copyFrom d [.ref a3, .ref a2] m38 (fun m43 => jX3_spare_49 d a2 a3 x4 x5 m43 K y4 0))) : jX3_spare_19 d a2 a3 x4 x5 M K y4 y5 := by
  unfold jX3_spare_19
  refine mm_aload_n (pc := 19) (j := 0) dX3_spare_19 rfl rfl ?_
  refine mm_iload (pc := 20) (j := 5) dX3_spare_20 rfl ?_
  refine mm_putI (pc := 22) (ci := 3) (N := 6) dX3_spare_22 fX3_15 sh_156 (by decide +kernel) rfl rfl rfl ?_
  refine mm_aload_n (pc := 25) (j := 0) dX3_spare_25 rfl rfl ?_
  refine mm_iload (pc := 26) (j := 4) dX3_spare_26 rfl ?_
  refine mm_putI (pc := 28) (ci := 3) (N := 6) dX3_spare_28 fX3_22 sh_156 (by decide +kernel) rfl rfl rfl ?_
  refine mm_aload_n (pc := 31) (j := 0) dX3_spare_31 rfl rfl ?_
  refine mm_iconst (pc := 32) (x := 0) dX3_spare_32 rfl ?_
  refine mm_putI (pc := 33) (ci := 3) (N := 6) dX3_spare_33 fX3_25 sh_156 (by decide +kernel) rfl rfl rfl ?_
  refine mm_aload_n (pc := 36) (j := 0) dX3_spare_36 rfl rfl ?_
  refine mm_aload_n (pc := 37) (j := 2) dX3_spare_37 rfl rfl ?_
  refine mm_kVV (pc := 38) [.ref a2] dX3_spare_38 kX3_28 rfl sh_156 (Nat.le_of_ble_eq_true rfl) (Nat.le_of_ble_eq_true rfl) h (fun m38 hG h => ?_)
  refine mm_aload_n (pc := 41) (j := 3) dX3_spare_41 rfl rfl ?_
  refine mm_aload_n (pc := 42) (j := 2) dX3_spare_42 rfl rfl ?_
  refine mm_kVV (pc := 43) [.ref a2] dX3_spare_43 kX3_32 rfl (sh_St ha3) (Nat.le_of_ble_eq_true rfl) (Nat.le_of_ble_eq_true rfl) h (fun m43 hG h => ?_)
  refine mm_iconst (pc := 46) (x := 0) dX3_spare_46 rfl ?_
  refine mm_istore (pc := 47) (lv' := [(6, .int 0), (0, .ref 156), (1, .ref 21), (2, .ref a2), (3, .ref a3), (4, .int y4), (5, .int y5)]) dX3_spare_47 (by decide) rfl ?_
  exact mm_sub [1, 2, 3, 4, 5, 0] rfl h
set_option maxRecDepth 100000 in
set_option maxHeartbeats 4000000 in
theorem lX3_spare_49 {d : Nat} {a2 : Nat} {a3 : Nat} {x4 : Int32} {x5 : Int32} {M : mm_M} {K : mm_M → Prop} {y4 : Int32} {y6 : Int32} (ha2 : a2 ∈ mm_Sts) (ha3 : a3 ∈ mm_Sts) (hG : mm_G M.2.2) (h : if y4 ≤ y6 then (jX3_spare_81 d a2 a3 x4 x5 M K y4 (M.1 a3 1) (M.1 156 2)) else (mm_CV mX1_run d [.ref 21, .ref a3, .int 0, .int 0] M (fun m60 => jX3_spare_49 d a2 a3 x4 x5 m60 K y4 (y6 + 1)))) : jX3_spare_49 d a2 a3 x4 x5 M K y4 y6 := by
  unfold jX3_spare_49
  refine mm_iload (pc := 49) (j := 5) dX3_spare_49 rfl ?_
  refine mm_iload (pc := 51) (j := 4) dX3_spare_51 rfl ?_
  refine mm_icmp_ge (pc := 53) (tgt := 69) dX3_spare_53 (by decide) (fun hc => ?_) (fun hc => ?_)
  · have h := mm_ift hc h
    refine mm_aload_n (pc := 69) (j := 3) dX3_spare_69 rfl rfl ?_
    refine mm_getI (pc := 70) (ci := 9) (N := 7) dX3_spare_70 fX3_43 (sh_St ha3) rfl ?_
    refine mm_istore (pc := 73) (lv' := [(6, .int (M.1 a3 1)), (0, .ref 156), (1, .ref 21), (2, .ref a2), (3, .ref a3), (4, .int y4)]) dX3_spare_73 (by decide) rfl ?_
    refine mm_aload_n (pc := 75) (j := 1) dX3_spare_75 rfl rfl ?_
    refine mm_getI (pc := 76) (ci := 3) (N := 6) dX3_spare_76 fX3_46 sh_156 rfl ?_
    refine mm_istore (pc := 79) (lv' := [(7, .int (M.1 156 2)), (6, .int (M.1 a3 1)), (0, .ref 156), (1, .ref 21), (2, .ref a2), (3, .ref a3), (4, .int y4)]) dX3_spare_79 (by decide) rfl ?_
    exact mm_sub [2, 3, 4, 5, 6, 1, 0] rfl h
  · have h := mm_iff hc h
    refine mm_aload_n (pc := 56) (j := 1) dX3_spare_56 rfl rfl ?_
    refine mm_aload_n (pc := 57) (j := 3) dX3_spare_57 rfl rfl ?_
    refine mm_iconst (pc := 58) (x := 0) dX3_spare_58 rfl ?_
    refine mm_iconst (pc := 59) (x := 0) dX3_spare_59 rfl ?_
    refine mm_kVV (pc := 60) [.ref a3, .int 0, .int 0] dX3_spare_60 kX3_37 rfl sh_21 (Nat.le_of_ble_eq_true rfl) (Nat.le_of_ble_eq_true rfl) h (fun m60 hG h => ?_)
    refine mm_iinc (pc := 63) (j := 5) (v := y6 + 1) (lv' := [(6, .int (y6 + 1)), (0, .ref 156), (1, .ref 21), (2, .ref a2), (3, .ref a3), (4, .int y4)]) dX3_spare_63 rfl rfl (by decide) rfl ?_
    refine mm_goto (pc := 66) (tgt := 49) dX3_spare_66 (by decide) ?_
    exact mm_sub [1, 2, 3, 4, 5, 0] rfl h
set_option maxRecDepth 100000 in
set_option maxHeartbeats 4000000 in
theorem lX3_spare_81 {d : Nat} {a2 : Nat} {a3 : Nat} {x4 : Int32} {x5 : Int32} {M : mm_M} {K : mm_M → Prop} {y4 : Int32} {y6 : Int32} {y7 : Int32} (ha2 : a2 ∈ mm_Sts) (ha3 : a3 ∈ mm_Sts) (hG : mm_G M.2.2) (h : if y7 ≤ 0 then (K M) else (jX3_spare_89 d a2 a3 x4 x5 M K y4 y6 y7 0)) : jX3_spare_81 d a2 a3 x4 x5 M K y4 y6 y7 := by
  unfold jX3_spare_81
  refine mm_iload (pc := 81) (j := 6) dX3_spare_81 rfl ?_
  refine mm_if_le (pc := 83) (tgt := 153) dX3_spare_83 (by decide) (fun hc => ?_) (fun hc => ?_)
  · have h := mm_ift hc h
    exact mm_vret (pc := 153) dX3_spare_153 rfl (Nat.le_refl 0) (Nat.le_refl 0) ⟨rfl, rfl, hG, h⟩
  · have h := mm_iff hc h
    refine mm_iconst (pc := 86) (x := 0) dX3_spare_86 rfl ?_
    refine mm_istore (pc := 87) (lv' := [(8, .int 0), (0, .ref 156), (1, .ref 21), (2, .ref a2), (3, .ref a3), (4, .int y4), (6, .int y6), (7, .int y7)]) dX3_spare_87 (by decide) rfl ?_
    exact mm_sub [1, 2, 3, 4, 5, 6, 7, 0] rfl h
set_option maxRecDepth 100000 in
set_option maxHeartbeats 4000000 in
theorem lX3_spare_89 {d : Nat} {a2 : Nat} {a3 : Nat} {x4 : Int32} {x5 : Int32} {M : mm_M} {K : mm_M → Prop} {y4 : Int32} {y6 : Int32} {y7 : Int32} {y8 : Int32} (ha2 : a2 ∈ mm_Sts) (ha3 : a3 ∈ mm_Sts) (hG : mm_G M.2.2) (h : if ((1 : Int32) <<< ((M.1 156 2) &&& 31)) ≤ y8 then (jX3_spare_81 d a2 a3 x4 x5 M K y4 y6 (y7 + (-1))) else (mm_CI mJ6_bitCount_0f7a4 d [.int y8] M (fun z102 m102 => if z102 = y7 then (mm_CV mX9_copyFrom d [.ref a3, .ref a2] m102 (fun m112 => mm_CV mX3_endFeuds d [.ref 156, .ref a3, .int y8] m112 (fun m119 => mm_CI mX3_live d [.ref 21, .ref a3, .int y4, .int y6] m119 (fun z128 m128 => if z128 = 0 then (jX3_spare_89 d a2 a3 x4 x5 m128 K y4 y6 y7 (y8 + 1)) else (K (mm_uI m128 156 0 y8)))))) else (jX3_spare_89 d a2 a3 x4 x5 m102 K y4 y6 y7 (y8 + 1))))) : jX3_spare_89 d a2 a3 x4 x5 M K y4 y6 y7 y8 := by
  unfold jX3_spare_89
  refine mm_iload (pc := 89) (j := 7) dX3_spare_89 rfl ?_
  refine mm_iconst (pc := 91) (x := 1) dX3_spare_91 rfl ?_
  refine mm_aload_n (pc := 92) (j := 0) dX3_spare_92 rfl rfl ?_
  refine mm_getI (pc := 93) (ci := 3) (N := 6) dX3_spare_93 fX3_46 sh_156 rfl ?_
  refine mm_ishl (pc := 96) dX3_spare_96 ?_
  refine mm_icmp_ge (pc := 97) (tgt := 147) dX3_spare_97 (by decide) (fun hc => ?_) (fun hc => ?_)
  · have h := mm_ift hc h
    refine mm_iinc (pc := 147) (j := 6) (v := y7 + (-1)) (lv' := [(7, .int (y7 + (-1))), (0, .ref 156), (1, .ref 21), (2, .ref a2), (3, .ref a3), (4, .int y4), (6, .int y6), (8, .int y8)]) dX3_spare_147 rfl rfl (by decide) rfl ?_
    refine mm_goto (pc := 150) (tgt := 81) dX3_spare_150 (by decide) ?_
    exact mm_sub [1, 2, 3, 4, 5, 6, 0] rfl h
  · have h := mm_iff hc h
    refine mm_iload (pc := 100) (j := 7) dX3_spare_100 rfl ?_
    refine mm_kSI (pc := 102) [.int y8] dX3_spare_102 kX3_49 rfl (Nat.le_of_ble_eq_true rfl) (Nat.le_of_ble_eq_true rfl) h (fun z102 m102 hG h => ?_)
    refine mm_iload (pc := 105) (j := 6) dX3_spare_105 rfl ?_
    refine mm_icmp_ne (pc := 107) (tgt := 141) dX3_spare_107 (by decide) (fun hc => ?_) (fun hc => ?_)
    · have h := mm_iff hc h
      refine mm_iinc (pc := 141) (j := 7) (v := y8 + 1) (lv' := [(8, .int (y8 + 1)), (0, .ref 156), (1, .ref 21), (2, .ref a2), (3, .ref a3), (4, .int y4), (6, .int y6), (7, .int y7)]) dX3_spare_141 rfl rfl (by decide) rfl ?_
      refine mm_goto (pc := 144) (tgt := 89) dX3_spare_144 (by decide) ?_
      exact mm_sub [1, 2, 3, 4, 5, 6, 7, 0] rfl h
    · have h := mm_ift hc h
      refine mm_aload_n (pc := 110) (j := 3) dX3_spare_110 rfl rfl ?_
      refine mm_aload_n (pc := 111) (j := 2) dX3_spare_111 rfl rfl ?_
      refine mm_kVV (pc := 112) [.ref a2] dX3_spare_112 kX3_32 rfl (sh_St ha3) (Nat.le_of_ble_eq_true rfl) (Nat.le_of_ble_eq_true rfl) h (fun m112 hG h => ?_)
      refine mm_aload_n (pc := 115) (j := 0) dX3_spare_115 rfl rfl ?_
      refine mm_aload_n (pc := 116) (j := 3) dX3_spare_116 rfl rfl ?_
      refine mm_iload (pc := 117) (j := 7) dX3_spare_117 rfl ?_
      refine mm_kVV (pc := 119) [.ref a3, .int y8] dX3_spare_119 kX3_55 rfl sh_156 (Nat.le_of_ble_eq_true rfl) (Nat.le_of_ble_eq_true rfl) h (fun m119 hG h => ?_)
      refine mm_aload_n (pc := 122) (j := 1) dX3_spare_122 rfl rfl ?_
      refine mm_aload_n (pc := 123) (j := 3) dX3_spare_123 rfl rfl ?_
      refine mm_iload (pc := 124) (j := 4) dX3_spare_124 rfl ?_
      refine mm_iload (pc := 126) (j := 5) dX3_spare_126 rfl ?_
      refine mm_kSI (pc := 128) [.ref 21, .ref a3, .int y4, .int y6] dX3_spare_128 kX3_59 rfl (Nat.le_of_ble_eq_true rfl) (Nat.le_of_ble_eq_true rfl) h (fun z128 m128 hG h => ?_)
      refine mm_if_eq (pc := 131) (tgt := 141) dX3_spare_131 (by decide) (fun hc => ?_) (fun hc => ?_)
      · have h := mm_ift hc h
        refine mm_iinc (pc := 141) (j := 7) (v := y8 + 1) (lv' := [(8, .int (y8 + 1)), (0, .ref 156), (1, .ref 21), (2, .ref a2), (3, .ref a3), (4, .int y4), (6, .int y6), (7, .int y7)]) dX3_spare_141 rfl rfl (by decide) rfl ?_
        refine mm_goto (pc := 144) (tgt := 89) dX3_spare_144 (by decide) ?_
        exact mm_sub [1, 2, 3, 4, 5, 6, 7, 0] rfl h
      · have h := mm_iff hc h
        refine mm_aload_n (pc := 134) (j := 0) dX3_spare_134 rfl rfl ?_
        refine mm_iload (pc := 135) (j := 7) dX3_spare_135 rfl ?_
        refine mm_putI (pc := 137) (ci := 3) (N := 6) dX3_spare_137 fX3_25 sh_156 (by decide +kernel) rfl rfl rfl ?_
        exact mm_vret (pc := 140) dX3_spare_140 rfl (Nat.le_refl 0) (Nat.le_refl 0) ⟨rfl, rfl, hG, h⟩
def jX3_sparedPair_4 (d : Nat) (x1 : Int32) (M : mm_M) (K : Int32 → mm_M → Prop) (y2 : Int32) (y3 : Int32) : Prop := mm_W mX3_sparedPair d 0 0 4 [(0, .ref 156), (2, .int y2), (3, .int y3)] [] mm_SH M 0 0 (mm_PI K)
set_option maxRecDepth 100000 in
set_option maxHeartbeats 4000000 in
theorem rX3_sparedPair {d : Nat} {x1 : Int32} {M : mm_M} {K : Int32 → mm_M → Prop} (hG : mm_G M.2.2) (h : jX3_sparedPair_4 d x1 M K x1 0) : mm_CI mX3_sparedPair d [.ref 156, .int x1] M K := by
  show mm_W mX3_sparedPair d 0 0 0 [(0, .ref 156), (1, .int x1)] [] mm_SH M 0 0 (mm_PI K)
  refine mm_iload_n (pc := 0) (j := 1) dX3_sparedPair_0 rfl rfl ?_
  refine mm_istore_n (pc := 1) (lv' := [(2, .int x1), (0, .ref 156), (1, .int x1)]) dX3_sparedPair_1 rfl (by decide) rfl ?_
  refine mm_iconst (pc := 2) (x := 0) dX3_sparedPair_2 rfl ?_
  refine mm_istore_n (pc := 3) (lv' := [(3, .int 0), (2, .int x1), (0, .ref 156), (1, .int x1)]) dX3_sparedPair_3 rfl (by decide) rfl ?_
  exact mm_sub [2, 1, 0] rfl h
set_option maxRecDepth 100000 in
set_option maxHeartbeats 4000000 in
theorem lX3_sparedPair_4 {d : Nat} {x1 : Int32} {M : mm_M} {K : Int32 → mm_M → Prop} {y2 : Int32} {y3 : Int32} (hG : mm_G M.2.2) (h : if (M.1 156 2) ≤ y3 then (K (-1) M) else (if 10 ≤ y3 then (K (-1) M) else (if (((M.1 156 0) >>> (y3 &&& 31)) &&& 1) = 0 then (jX3_sparedPair_4 d x1 M K y2 (y3 + 1)) else (if y2 = 0 then (vp_in y3 10 ∧ K (M.1 157 y3.toNatClampNeg) M) else (jX3_sparedPair_4 d x1 M K (y2 + (-1)) (y3 + 1)))))) : jX3_sparedPair_4 d x1 M K y2 y3 := by
  unfold jX3_sparedPair_4
  refine mm_iload_n (pc := 4) (j := 2) dX3_sparedPair_4 rfl rfl ?_
  refine mm_aload_n (pc := 5) (j := 0) dX3_sparedPair_5 rfl rfl ?_
  refine mm_getI (pc := 6) (ci := 3) (N := 6) dX3_sparedPair_6 fX3_46 sh_156 rfl ?_
  refine mm_icmp_ge (pc := 9) (tgt := 49) dX3_sparedPair_9 (by decide) (fun hc => ?_) (fun hc => ?_)
  · have h := mm_ift hc h
    refine mm_iconst (pc := 49) (x := (-1)) dX3_sparedPair_49 rfl ?_
    exact mm_iret (pc := 50) dX3_sparedPair_50 rfl (Nat.le_refl 0) (Nat.le_refl 0) ⟨_, rfl, rfl, hG, h⟩
  · have h := mm_iff hc h
    refine mm_iload_n (pc := 12) (j := 2) dX3_sparedPair_12 rfl rfl ?_
    refine mm_bipush (pc := 13) (x := 10) dX3_sparedPair_13 rfl ?_
    refine mm_icmp_ge (pc := 15) (tgt := 49) dX3_sparedPair_15 (by decide) (fun hc => ?_) (fun hc => ?_)
    · have h := mm_ift hc h
      refine mm_iconst (pc := 49) (x := (-1)) dX3_sparedPair_49 rfl ?_
      exact mm_iret (pc := 50) dX3_sparedPair_50 rfl (Nat.le_refl 0) (Nat.le_refl 0) ⟨_, rfl, rfl, hG, h⟩
    · have h := mm_iff hc h
      refine mm_aload_n (pc := 18) (j := 0) dX3_sparedPair_18 rfl rfl ?_
      refine mm_getI (pc := 19) (ci := 3) (N := 6) dX3_sparedPair_19 fX3_25 sh_156 rfl ?_
      refine mm_iload_n (pc := 22) (j := 2) dX3_sparedPair_22 rfl rfl ?_
      refine mm_ishr (pc := 23) dX3_sparedPair_23 ?_
      refine mm_iconst (pc := 24) (x := 1) dX3_sparedPair_24 rfl ?_
      refine mm_iand (pc := 25) dX3_sparedPair_25 ?_
      refine mm_if_eq (pc := 26) (tgt := 43) dX3_sparedPair_26 (by decide) (fun hc => ?_) (fun hc => ?_)
      · have h := mm_ift hc h
        refine mm_iinc (pc := 43) (j := 2) (v := y3 + 1) (lv' := [(3, .int (y3 + 1)), (0, .ref 156), (2, .int y2)]) dX3_sparedPair_43 rfl rfl (by decide) rfl ?_
        refine mm_goto (pc := 46) (tgt := 4) dX3_sparedPair_46 (by decide) ?_
        exact mm_sub [1, 2, 0] rfl h
      · have h := mm_iff hc h
        refine mm_iload_n (pc := 29) (j := 1) dX3_sparedPair_29 rfl rfl ?_
        refine mm_if_ne (pc := 30) (tgt := 40) dX3_sparedPair_30 (by decide) (fun hc => ?_) (fun hc => ?_)
        · have h := mm_iff hc h
          refine mm_iinc (pc := 40) (j := 1) (v := y2 + (-1)) (lv' := [(2, .int (y2 + (-1))), (0, .ref 156), (3, .int y3)]) dX3_sparedPair_40 rfl rfl (by decide) rfl ?_
          refine mm_iinc (pc := 43) (j := 2) (v := y3 + 1) (lv' := [(3, .int (y3 + 1)), (2, .int (y2 + (-1))), (0, .ref 156)]) dX3_sparedPair_43 rfl rfl (by decide) rfl ?_
          refine mm_goto (pc := 46) (tgt := 4) dX3_sparedPair_46 (by decide) ?_
          exact mm_sub [2, 1, 0] rfl h
        · have h := mm_ift hc h
          refine mm_aload_n (pc := 33) (j := 0) dX3_sparedPair_33 rfl rfl ?_
          refine mm_getR (pc := 34) (ci := 3) (N := 6) (r := 157) dX3_sparedPair_34 fX3_11 sh_156 rfl (g_156_1 hG) ?_
          refine mm_iload_n (pc := 37) (j := 2) dX3_sparedPair_37 rfl rfl ?_
          obtain ⟨hi38, h⟩ := h
          refine mm_iaload (pc := 38) (N := 10) dX3_sparedPair_38 sh_157 hi38 ?_
          exact mm_iret (pc := 39) dX3_sparedPair_39 rfl (Nat.le_refl 0) (Nat.le_refl 0) ⟨_, rfl, rfl, hG, h⟩
def jX3_listFeuds_7 (d : Nat) (a1 : Nat) (M : mm_M) (K : mm_M → Prop) (y2 : Int32) : Prop := mm_W mX3_listFeuds d 0 0 7 [(0, .ref 156), (1, .ref a1), (2, .int y2)] [] mm_SH M 0 0 (mm_PV K)
def jX3_listFeuds_17 (d : Nat) (a1 : Nat) (M : mm_M) (K : mm_M → Prop) (y2 : Int32) (y3 : Int32) : Prop := mm_W mX3_listFeuds d 0 0 17 [(0, .ref 156), (1, .ref a1), (2, .int y2), (3, .int y3)] [] mm_SH M 0 0 (mm_PV K)
set_option maxRecDepth 100000 in
set_option maxHeartbeats 4000000 in
theorem rX3_listFeuds {d : Nat} {a1 : Nat} {M : mm_M} {K : mm_M → Prop} (ha1 : a1 ∈ mm_Sts) (hG : mm_G M.2.2) (h : jX3_listFeuds_7 d a1 (mm_uI M 156 2 0) K 0) : mm_CV mX3_listFeuds d [.ref 156, .ref a1] M K := by
  show mm_W mX3_listFeuds d 0 0 0 [(0, .ref 156), (1, .ref a1)] [] mm_SH M 0 0 (mm_PV K)
  refine mm_aload_n (pc := 0) (j := 0) dX3_listFeuds_0 rfl rfl ?_
  refine mm_iconst (pc := 1) (x := 0) dX3_listFeuds_1 rfl ?_
  refine mm_putI (pc := 2) (ci := 3) (N := 6) dX3_listFeuds_2 fX3_46 sh_156 (by decide +kernel) rfl rfl rfl ?_
  refine mm_iconst (pc := 5) (x := 0) dX3_listFeuds_5 rfl ?_
  refine mm_istore_n (pc := 6) (lv' := [(2, .int 0), (0, .ref 156), (1, .ref a1)]) dX3_listFeuds_6 rfl (by decide) rfl ?_
  exact mm_sub [1, 2, 0] rfl h
set_option maxRecDepth 100000 in
set_option maxHeartbeats 4000000 in
theorem lX3_listFeuds_7 {d : Nat} {a1 : Nat} {M : mm_M} {K : mm_M → Prop} {y2 : Int32} (ha1 : a1 ∈ mm_Sts) (hG : mm_G M.2.2) (h : if 7 ≤ y2 then (K M) else (jX3_listFeuds_17 d a1 M K y2 (y2 + 1))) : jX3_listFeuds_7 d a1 M K y2 := by
  unfold jX3_listFeuds_7
  refine mm_iload_n (pc := 7) (j := 2) dX3_listFeuds_7 rfl rfl ?_
  refine mm_bipush (pc := 8) (x := 7) dX3_listFeuds_8 rfl ?_
  refine mm_icmp_ge (pc := 10) (tgt := 83) dX3_listFeuds_10 (by decide) (fun hc => ?_) (fun hc => ?_)
  · have h := mm_ift hc h
    exact mm_vret (pc := 83) dX3_listFeuds_83 rfl (Nat.le_refl 0) (Nat.le_refl 0) ⟨rfl, rfl, hG, h⟩
  · have h := mm_iff hc h
    refine mm_iload_n (pc := 13) (j := 2) dX3_listFeuds_13 rfl rfl ?_
    refine mm_iconst (pc := 14) (x := 1) dX3_listFeuds_14 rfl ?_
    refine mm_iadd (pc := 15) dX3_listFeuds_15 ?_
    refine mm_istore_n (pc := 16) (lv' := [(3, .int (y2 + 1)), (0, .ref 156), (1, .ref a1), (2, .int y2)]) dX3_listFeuds_16 rfl (by decide) rfl ?_
    exact mm_sub [1, 2, 3, 0] rfl h
set_option maxRecDepth 100000 in
set_option maxHeartbeats 4000000 in
theorem lX3_listFeuds_17 {d : Nat} {a1 : Nat} {M : mm_M} {K : mm_M → Prop} {y2 : Int32} {y3 : Int32} (ha1 : a1 ∈ mm_Sts) (hG : mm_G M.2.2) (h : if 7 ≤ y3 then (jX3_listFeuds_7 d a1 M K (y2 + 1)) else (vp_in ((8 * y2) + y3) 64 ∧ if (M.1 (a1 + 3) ((8 * y2) + y3).toNatClampNeg) ≤ 0 then (jX3_listFeuds_17 d a1 M K y2 (y3 + 1)) else (if 10 ≤ (M.1 156 2) then (jX3_listFeuds_17 d a1 M K y2 (y3 + 1)) else (vp_in (M.1 156 2) 10 ∧ jX3_listFeuds_17 d a1 (mm_uI (mm_uI M 157 (M.1 156 2).toNatClampNeg ((8 * y2) + y3)) 156 2 (((mm_uI M 157 (M.1 156 2).toNatClampNeg ((8 * y2) + y3)).1 156 2) + 1)) K y2 (y3 + 1))))) : jX3_listFeuds_17 d a1 M K y2 y3 := by
  unfold jX3_listFeuds_17
  refine mm_iload_n (pc := 17) (j := 3) dX3_listFeuds_17 rfl rfl ?_
  refine mm_bipush (pc := 18) (x := 7) dX3_listFeuds_18 rfl ?_
  refine mm_icmp_ge (pc := 20) (tgt := 77) dX3_listFeuds_20 (by decide) (fun hc => ?_) (fun hc => ?_)
  · have h := mm_ift hc h
    refine mm_iinc (pc := 77) (j := 2) (v := y2 + 1) (lv' := [(2, .int (y2 + 1)), (0, .ref 156), (1, .ref a1), (3, .int y3)]) dX3_listFeuds_77 rfl rfl (by decide) rfl ?_
    refine mm_goto (pc := 80) (tgt := 7) dX3_listFeuds_80 (by decide) ?_
    exact mm_sub [1, 2, 0] rfl h
  · have h := mm_iff hc h
    refine mm_aload_n (pc := 23) (j := 1) dX3_listFeuds_23 rfl rfl ?_
    refine mm_getR (pc := 24) (ci := 9) (N := 7) (r := a1 + 3) dX3_listFeuds_24 fX3_63 (sh_St ha1) rfl (g_St_5 hG ha1) ?_
    refine mm_bipush (pc := 27) (x := 8) dX3_listFeuds_27 rfl ?_
    refine mm_iload_n (pc := 29) (j := 2) dX3_listFeuds_29 rfl rfl ?_
    refine mm_imul (pc := 30) dX3_listFeuds_30 ?_
    refine mm_iload_n (pc := 31) (j := 3) dX3_listFeuds_31 rfl rfl ?_
    refine mm_iadd (pc := 32) dX3_listFeuds_32 ?_
    obtain ⟨hi33, h⟩ := h
    refine mm_iaload (pc := 33) (N := 64) dX3_listFeuds_33 (sh_St_3 ha1) hi33 ?_
    refine mm_if_le (pc := 34) (tgt := 71) dX3_listFeuds_34 (by decide) (fun hc => ?_) (fun hc => ?_)
    · have h := mm_ift hc h
      refine mm_iinc (pc := 71) (j := 3) (v := y3 + 1) (lv' := [(3, .int (y3 + 1)), (0, .ref 156), (1, .ref a1), (2, .int y2)]) dX3_listFeuds_71 rfl rfl (by decide) rfl ?_
      refine mm_goto (pc := 74) (tgt := 17) dX3_listFeuds_74 (by decide) ?_
      exact mm_sub [1, 2, 3, 0] rfl h
    · have h := mm_iff hc h
      refine mm_aload_n (pc := 37) (j := 0) dX3_listFeuds_37 rfl rfl ?_
      refine mm_getI (pc := 38) (ci := 3) (N := 6) dX3_listFeuds_38 fX3_46 sh_156 rfl ?_
      refine mm_bipush (pc := 41) (x := 10) dX3_listFeuds_41 rfl ?_
      refine mm_icmp_ge (pc := 43) (tgt := 71) dX3_listFeuds_43 (by decide) (fun hc => ?_) (fun hc => ?_)
      · have h := mm_ift hc h
        refine mm_iinc (pc := 71) (j := 3) (v := y3 + 1) (lv' := [(3, .int (y3 + 1)), (0, .ref 156), (1, .ref a1), (2, .int y2)]) dX3_listFeuds_71 rfl rfl (by decide) rfl ?_
        refine mm_goto (pc := 74) (tgt := 17) dX3_listFeuds_74 (by decide) ?_
        exact mm_sub [1, 2, 3, 0] rfl h
      · have h := mm_iff hc h
        refine mm_aload_n (pc := 46) (j := 0) dX3_listFeuds_46 rfl rfl ?_
        refine mm_getR (pc := 47) (ci := 3) (N := 6) (r := 157) dX3_listFeuds_47 fX3_11 sh_156 rfl (g_156_1 hG) ?_
        refine mm_aload_n (pc := 50) (j := 0) dX3_listFeuds_50 rfl rfl ?_
        refine mm_getI (pc := 51) (ci := 3) (N := 6) dX3_listFeuds_51 fX3_46 sh_156 rfl ?_
        refine mm_bipush (pc := 54) (x := 8) dX3_listFeuds_54 rfl ?_
        refine mm_iload_n (pc := 56) (j := 2) dX3_listFeuds_56 rfl rfl ?_
        refine mm_imul (pc := 57) dX3_listFeuds_57 ?_
        refine mm_iload_n (pc := 58) (j := 3) dX3_listFeuds_58 rfl rfl ?_
        refine mm_iadd (pc := 59) dX3_listFeuds_59 ?_
        obtain ⟨hi60, h⟩ := h
        refine mm_iastore (pc := 60) (N := 10) dX3_listFeuds_60 sh_157 hi60 ?_
        refine mm_aload_n (pc := 61) (j := 0) dX3_listFeuds_61 rfl rfl ?_
        refine mm_dup (pc := 62) dX3_listFeuds_62 rfl ?_
        refine mm_getI (pc := 63) (ci := 3) (N := 6) dX3_listFeuds_63 fX3_46 sh_156 rfl ?_
        refine mm_iconst (pc := 66) (x := 1) dX3_listFeuds_66 rfl ?_
        refine mm_iadd (pc := 67) dX3_listFeuds_67 ?_
        refine mm_putI (pc := 68) (ci := 3) (N := 6) dX3_listFeuds_68 fX3_46 sh_156 (by decide +kernel) rfl rfl rfl ?_
        refine mm_iinc (pc := 71) (j := 3) (v := y3 + 1) (lv' := [(3, .int (y3 + 1)), (0, .ref 156), (1, .ref a1), (2, .int y2)]) dX3_listFeuds_71 rfl rfl (by decide) rfl ?_
        refine mm_goto (pc := 74) (tgt := 17) dX3_listFeuds_74 (by decide) ?_
        exact mm_sub [1, 2, 3, 0] rfl h
def jX3_endFeuds_2 (d : Nat) (a1 : Nat) (x2 : Int32) (M : mm_M) (K : mm_M → Prop) (y2 : Int32) (y3 : Int32) : Prop := mm_W mX3_endFeuds (d + 1) 0 0 2 [(0, .ref 156), (1, .ref a1), (2, .int y2), (3, .int y3)] [] mm_SH M 0 0 (mm_PV K)
set_option maxRecDepth 100000 in
set_option maxHeartbeats 4000000 in
theorem rX3_endFeuds {d : Nat} {a1 : Nat} {x2 : Int32} {M : mm_M} {K : mm_M → Prop} (ha1 : a1 ∈ mm_Sts) (hG : mm_G M.2.2) (h : jX3_endFeuds_2 d a1 x2 M K x2 0) : mm_CV mX3_endFeuds (d + 1) [.ref 156, .ref a1, .int x2] M K := by
  show mm_W mX3_endFeuds (d + 1) 0 0 0 [(0, .ref 156), (1, .ref a1), (2, .int x2)] [] mm_SH M 0 0 (mm_PV K)
  refine mm_iconst (pc := 0) (x := 0) dX3_endFeuds_0 rfl ?_
  refine mm_istore_n (pc := 1) (lv' := [(3, .int 0), (0, .ref 156), (1, .ref a1), (2, .int x2)]) dX3_endFeuds_1 rfl (by decide) rfl ?_
  exact mm_sub [1, 2, 3, 0] rfl h
set_option maxRecDepth 100000 in
set_option maxHeartbeats 4000000 in
theorem lX3_endFeuds_2 {d : Nat} {a1 : Nat} {x2 : Int32} {M : mm_M} {K : mm_M → Prop} {y2 : Int32} {y3 : Int32} (ha1 : a1 ∈ mm_Sts) (hG : mm_G M.2.2) (h : if (M.1 156 2) ≤ y3 then (K M) else (if 10 ≤ y3 then (K M) else (if ((y2 >>> (y3 &&& 31)) &&& 1) = 0 then (jX3_endFeuds_2 d a1 x2 M K y2 (y3 + 1)) else (vp_in y3 10 ∧ vp_in y3 10 ∧ mm_CV mX9_setHate d [.ref a1, .int ((M.1 157 y3.toNatClampNeg) / 8), .int ((M.1 157 y3.toNatClampNeg) - (M.1 157 y3.toNatClampNeg) / 8 * 8), .int 0] M (fun m44 => jX3_endFeuds_2 d a1 x2 m44 K y2 (y3 + 1)))))) : jX3_endFeuds_2 d a1 x2 M K y2 y3 := by
  unfold jX3_endFeuds_2
  refine mm_iload_n (pc := 2) (j := 3) dX3_endFeuds_2 rfl rfl ?_
  refine mm_aload_n (pc := 3) (j := 0) dX3_endFeuds_3 rfl rfl ?_
  refine mm_getI (pc := 4) (ci := 3) (N := 6) dX3_endFeuds_4 fX3_46 sh_156 rfl ?_
  refine mm_icmp_ge (pc := 7) (tgt := 53) dX3_endFeuds_7 (by decide) (fun hc => ?_) (fun hc => ?_)
  · have h := mm_ift hc h
    exact mm_vret (pc := 53) dX3_endFeuds_53 rfl (Nat.le_refl 0) (Nat.le_refl 0) ⟨rfl, rfl, hG, h⟩
  · have h := mm_iff hc h
    refine mm_iload_n (pc := 10) (j := 3) dX3_endFeuds_10 rfl rfl ?_
    refine mm_bipush (pc := 11) (x := 10) dX3_endFeuds_11 rfl ?_
    refine mm_icmp_ge (pc := 13) (tgt := 53) dX3_endFeuds_13 (by decide) (fun hc => ?_) (fun hc => ?_)
    · have h := mm_ift hc h
      exact mm_vret (pc := 53) dX3_endFeuds_53 rfl (Nat.le_refl 0) (Nat.le_refl 0) ⟨rfl, rfl, hG, h⟩
    · have h := mm_iff hc h
      refine mm_iload_n (pc := 16) (j := 2) dX3_endFeuds_16 rfl rfl ?_
      refine mm_iload_n (pc := 17) (j := 3) dX3_endFeuds_17 rfl rfl ?_
      refine mm_ishr (pc := 18) dX3_endFeuds_18 ?_
      refine mm_iconst (pc := 19) (x := 1) dX3_endFeuds_19 rfl ?_
      refine mm_iand (pc := 20) dX3_endFeuds_20 ?_
      refine mm_if_eq (pc := 21) (tgt := 47) dX3_endFeuds_21 (by decide) (fun hc => ?_) (fun hc => ?_)
      · have h := mm_ift hc h
        refine mm_iinc (pc := 47) (j := 3) (v := y3 + 1) (lv' := [(3, .int (y3 + 1)), (0, .ref 156), (1, .ref a1), (2, .int y2)]) dX3_endFeuds_47 rfl rfl (by decide) rfl ?_
        refine mm_goto (pc := 50) (tgt := 2) dX3_endFeuds_50 (by decide) ?_
        exact mm_sub [1, 2, 3, 0] rfl h
      · have h := mm_iff hc h
        refine mm_aload_n (pc := 24) (j := 1) dX3_endFeuds_24 rfl rfl ?_
        refine mm_aload_n (pc := 25) (j := 0) dX3_endFeuds_25 rfl rfl ?_
        refine mm_getR (pc := 26) (ci := 3) (N := 6) (r := 157) dX3_endFeuds_26 fX3_11 sh_156 rfl (g_156_1 hG) ?_
        refine mm_iload_n (pc := 29) (j := 3) dX3_endFeuds_29 rfl rfl ?_
        obtain ⟨hi30, h⟩ := h
        refine mm_iaload (pc := 30) (N := 10) dX3_endFeuds_30 sh_157 hi30 ?_
        refine mm_bipush (pc := 31) (x := 8) dX3_endFeuds_31 rfl ?_
        refine mm_idiv (pc := 33) dX3_endFeuds_33 (by decide) ?_
        refine mm_aload_n (pc := 34) (j := 0) dX3_endFeuds_34 rfl rfl ?_
        refine mm_getR (pc := 35) (ci := 3) (N := 6) (r := 157) dX3_endFeuds_35 fX3_11 sh_156 rfl (g_156_1 hG) ?_
        refine mm_iload_n (pc := 38) (j := 3) dX3_endFeuds_38 rfl rfl ?_
        obtain ⟨hi39, h⟩ := h
        refine mm_iaload (pc := 39) (N := 10) dX3_endFeuds_39 sh_157 hi39 ?_
        refine mm_bipush (pc := 40) (x := 8) dX3_endFeuds_40 rfl ?_
        refine mm_irem (pc := 42) dX3_endFeuds_42 (by decide) ?_
        refine mm_iconst (pc := 43) (x := 0) dX3_endFeuds_43 rfl ?_
        refine mm_kVV (pc := 44) [.int ((M.1 157 y3.toNatClampNeg) / 8), .int ((M.1 157 y3.toNatClampNeg) - (M.1 157 y3.toNatClampNeg) / 8 * 8), .int 0] dX3_endFeuds_44 kX3_66 rfl (sh_St ha1) (Nat.le_of_ble_eq_true rfl) (Nat.le_of_ble_eq_true rfl) h (fun m44 hG h => ?_)
        refine mm_iinc (pc := 47) (j := 3) (v := y3 + 1) (lv' := [(3, .int (y3 + 1)), (0, .ref 156), (1, .ref a1), (2, .int y2)]) dX3_endFeuds_47 rfl rfl (by decide) rfl ?_
        refine mm_goto (pc := 50) (tgt := 2) dX3_endFeuds_50 (by decide) ?_
        exact mm_sub [1, 2, 3, 0] rfl h
def jX3_live_3 (d : Nat) (a1 : Nat) (x2 : Int32) (x3 : Int32) (M : mm_M) (K : Int32 → mm_M → Prop) (y2 : Int32) (y3 : Int32) (y4 : Int32) : Prop := mm_W mX3_live (d + 1) 0 0 3 [(0, .ref 21), (1, .ref a1), (2, .int y2), (3, .int y3), (4, .int y4)] [] mm_SH M 0 0 (mm_PI K)
set_option maxRecDepth 100000 in
set_option maxHeartbeats 4000000 in
theorem rX3_live {d : Nat} {a1 : Nat} {x2 : Int32} {x3 : Int32} {M : mm_M} {K : Int32 → mm_M → Prop} (ha1 : a1 ∈ mm_Sts) (hG : mm_G M.2.2) (h : jX3_live_3 d a1 x2 x3 M K x2 x3 0) : mm_CI mX3_live (d + 1) [.ref 21, .ref a1, .int x2, .int x3] M K := by
  show mm_W mX3_live (d + 1) 0 0 0 [(0, .ref 21), (1, .ref a1), (2, .int x2), (3, .int x3)] [] mm_SH M 0 0 (mm_PI K)
  refine mm_iconst (pc := 0) (x := 0) dX3_live_0 rfl ?_
  refine mm_istore (pc := 1) (lv' := [(4, .int 0), (0, .ref 21), (1, .ref a1), (2, .int x2), (3, .int x3)]) dX3_live_1 (by decide) rfl ?_
  exact mm_sub [1, 2, 3, 4, 0] rfl h
set_option maxRecDepth 100000 in
set_option maxHeartbeats 4000000 in
theorem lX3_live_3 {d : Nat} {a1 : Nat} {x2 : Int32} {x3 : Int32} {M : mm_M} {K : Int32 → mm_M → Prop} {y2 : Int32} {y3 : Int32} {y4 : Int32} (ha1 : a1 ∈ mm_Sts) (hG : mm_G M.2.2) (h : if y2 ≤ y4 then (K 1 M) else (mm_CV mX1_run d [.ref 21, .ref a1, .int 0, .int 0] M (fun m13 => if (y3 &&& ((m13.1 a1 1) ^^^ (-1))) = 0 then (jX3_live_3 d a1 x2 x3 m13 K y2 y3 (y4 + 1)) else (K 0 m13)))) : jX3_live_3 d a1 x2 x3 M K y2 y3 y4 := by
  unfold jX3_live_3
  refine mm_iload (pc := 3) (j := 4) dX3_live_3 rfl ?_
  refine mm_iload_n (pc := 5) (j := 2) dX3_live_5 rfl rfl ?_
  refine mm_icmp_ge (pc := 6) (tgt := 35) dX3_live_6 (by decide) (fun hc => ?_) (fun hc => ?_)
  · have h := mm_ift hc h
    refine mm_iconst (pc := 35) (x := 1) dX3_live_35 rfl ?_
    exact mm_zret (pc := 36) dX3_live_36 rfl rfl (Nat.le_refl 0) (Nat.le_refl 0) ⟨_, rfl, rfl, hG, h⟩
  · have h := mm_iff hc h
    refine mm_aload_n (pc := 9) (j := 0) dX3_live_9 rfl rfl ?_
    refine mm_aload_n (pc := 10) (j := 1) dX3_live_10 rfl rfl ?_
    refine mm_iconst (pc := 11) (x := 0) dX3_live_11 rfl ?_
    refine mm_iconst (pc := 12) (x := 0) dX3_live_12 rfl ?_
    refine mm_kVV (pc := 13) [.ref a1, .int 0, .int 0] dX3_live_13 kX3_37 rfl sh_21 (Nat.le_of_ble_eq_true rfl) (Nat.le_of_ble_eq_true rfl) h (fun m13 hG h => ?_)
    refine mm_iload_n (pc := 16) (j := 3) dX3_live_16 rfl rfl ?_
    refine mm_aload_n (pc := 17) (j := 1) dX3_live_17 rfl rfl ?_
    refine mm_getI (pc := 18) (ci := 9) (N := 7) dX3_live_18 fX3_43 (sh_St ha1) rfl ?_
    refine mm_iconst (pc := 21) (x := (-1)) dX3_live_21 rfl ?_
    refine mm_ixor (pc := 22) dX3_live_22 ?_
    refine mm_iand (pc := 23) dX3_live_23 ?_
    refine mm_if_eq (pc := 24) (tgt := 29) dX3_live_24 (by decide) (fun hc => ?_) (fun hc => ?_)
    · have h := mm_ift hc h
      refine mm_iinc (pc := 29) (j := 4) (v := y4 + 1) (lv' := [(4, .int (y4 + 1)), (0, .ref 21), (1, .ref a1), (2, .int y2), (3, .int y3)]) dX3_live_29 rfl rfl (by decide) rfl ?_
      refine mm_goto (pc := 32) (tgt := 3) dX3_live_32 (by decide) ?_
      exact mm_sub [1, 2, 3, 4, 0] rfl h
    · have h := mm_iff hc h
      refine mm_iconst (pc := 27) (x := 0) dX3_live_27 rfl ?_
      exact mm_zret (pc := 28) dX3_live_28 rfl rfl (Nat.le_refl 0) (Nat.le_refl 0) ⟨_, rfl, rfl, hG, h⟩
def jX3_restingSet_13 (d : Nat) (a2 : Nat) (a3 : Nat) (x4 : Int32) (M : mm_M) (K : Int32 → mm_M → Prop) (y4 : Int32) (y5 : Int32) : Prop := mm_W mX3_restingSet (d + 1) 0 0 13 [(0, .ref 156), (1, .ref 21), (2, .ref a2), (3, .ref a3), (4, .int y4), (5, .int y5)] [] mm_SH M 0 0 (mm_PI K)
def jX3_restingSet_23 (d : Nat) (a2 : Nat) (a3 : Nat) (x4 : Int32) (M : mm_M) (K : Int32 → mm_M → Prop) (y4 : Int32) (y5 : Int32) (y6 : Int32) : Prop := mm_W mX3_restingSet (d + 1) 0 0 23 [(0, .ref 156), (1, .ref 21), (2, .ref a2), (3, .ref a3), (4, .int y4), (5, .int y5), (6, .int y6)] [] mm_SH M 0 0 (mm_PI K)
def jX3_restingSet_75 (d : Nat) (a2 : Nat) (a3 : Nat) (x4 : Int32) (M : mm_M) (K : Int32 → mm_M → Prop) (y4 : Int32) (y5 : Int32) (y6 : Int32) : Prop := mm_W mX3_restingSet (d + 1) 0 0 75 [(0, .ref 156), (1, .ref 21), (2, .ref a2), (3, .ref a3), (4, .int y4), (5, .int y5), (6, .int y6)] [] mm_SH M 0 0 (mm_PI K)
set_option maxRecDepth 100000 in
set_option maxHeartbeats 4000000 in
theorem rX3_restingSet {d : Nat} {a2 : Nat} {a3 : Nat} {x4 : Int32} {M : mm_M} {K : Int32 → mm_M → Prop} (ha2 : a2 ∈ mm_Sts) (ha3 : a3 ∈ mm_Sts) (hG : mm_G M.2.2) (h : mm_CV mX3_goHungry d [.ref 156, .ref 21, .ref a2, .ref a3, .int x4, .int 0] M (fun m7 => jX3_restingSet_13 d a2 a3 x4 m7 K x4 0)) : mm_CI mX3_restingSet (d + 1) [.ref 156, .ref 21, .ref a2, .ref a3, .int x4] M K := by
  show mm_W mX3_restingSet (d + 1) 0 0 0 [(0, .ref 156), (1, .ref 21), (2, .ref a2), (3, .ref a3), (4, .int x4)] [] mm_SH M 0 0 (mm_PI K)
  refine mm_aload_n (pc := 0) (j := 0) dX3_restingSet_0 rfl rfl ?_
  refine mm_aload_n (pc := 1) (j := 1) dX3_restingSet_1 rfl rfl ?_
  refine mm_aload_n (pc := 2) (j := 2) dX3_restingSet_2 rfl rfl ?_
  refine mm_aload_n (pc := 3) (j := 3) dX3_restingSet_3 rfl rfl ?_
  refine mm_iload (pc := 4) (j := 4) dX3_restingSet_4 rfl ?_
  refine mm_iconst (pc := 6) (x := 0) dX3_restingSet_6 rfl ?_
  refine mm_kVV (pc := 7) [.ref 21, .ref a2, .ref a3, .int x4, .int 0] dX3_restingSet_7 kX3_70 rfl sh_156 (Nat.le_of_ble_eq_true rfl) (Nat.le_of_ble_eq_true rfl) h (fun m7 hG h => ?_)
  refine mm_iconst (pc := 10) (x := 0) dX3_restingSet_10 rfl ?_
  refine mm_istore (pc := 11) (lv' := [(5, .int 0), (0, .ref 156), (1, .ref 21), (2, .ref a2), (3, .ref a3), (4, .int x4)]) dX3_restingSet_11 (by decide) rfl ?_
  exact mm_sub [1, 2, 3, 4, 5, 0] rfl h
set_option maxRecDepth 100000 in
set_option maxHeartbeats 4000000 in
theorem lX3_restingSet_13 {d : Nat} {a2 : Nat} {a3 : Nat} {x4 : Int32} {M : mm_M} {K : Int32 → mm_M → Prop} {y4 : Int32} {y5 : Int32} (ha2 : a2 ∈ mm_Sts) (ha3 : a3 ∈ mm_Sts) (hG : mm_G M.2.2) (h : if 7 < y5 then (K (-1) M) else (jX3_restingSet_23 d a2 a3 x4 M K y4 y5 0)) : jX3_restingSet_13 d a2 a3 x4 M K y4 y5 := by
  unfold jX3_restingSet_13
  refine mm_iload (pc := 13) (j := 5) dX3_restingSet_13 rfl ?_
  refine mm_bipush (pc := 15) (x := 7) dX3_restingSet_15 rfl ?_
  refine mm_icmp_gt (pc := 17) (tgt := 130) dX3_restingSet_17 (by decide) (fun hc => ?_) (fun hc => ?_)
  · have h := mm_ift hc h
    refine mm_iconst (pc := 130) (x := (-1)) dX3_restingSet_130 rfl ?_
    exact mm_iret (pc := 131) dX3_restingSet_131 rfl (Nat.le_refl 0) (Nat.le_refl 0) ⟨_, rfl, rfl, hG, h⟩
  · have h := mm_iff hc h
    refine mm_iconst (pc := 20) (x := 0) dX3_restingSet_20 rfl ?_
    refine mm_istore (pc := 21) (lv' := [(6, .int 0), (0, .ref 156), (1, .ref 21), (2, .ref a2), (3, .ref a3), (4, .int y4), (5, .int y5)]) dX3_restingSet_21 (by decide) rfl ?_
    exact mm_sub [1, 2, 3, 4, 5, 6, 0] rfl h
set_option maxRecDepth 100000 in
set_option maxHeartbeats 4000000 in
theorem lX3_restingSet_23 {d : Nat} {a2 : Nat} {a3 : Nat} {x4 : Int32} {M : mm_M} {K : Int32 → mm_M → Prop} {y4 : Int32} {y5 : Int32} {y6 : Int32} (ha2 : a2 ∈ mm_Sts) (ha3 : a3 ∈ mm_Sts) (hG : mm_G M.2.2) (h : if 128 ≤ y6 then (jX3_restingSet_75 d a2 a3 x4 M K y4 y5 0) else (if (y6 &&& ((M.1 a2 1) ^^^ (-1))) = 0 then (mm_CI mJ6_bitCount_0f7a4 d [.int y6] M (fun z45 m45 => if z45 = (y5 + 1) then (mm_CV mX3_goHungry d [.ref 156, .ref 21, .ref a2, .ref a3, .int y4, .int y6] m45 (fun m63 => jX3_restingSet_23 d a2 a3 x4 m63 K y4 y5 (y6 + 1))) else (jX3_restingSet_23 d a2 a3 x4 m45 K y4 y5 (y6 + 1)))) else (jX3_restingSet_23 d a2 a3 x4 M K y4 y5 (y6 + 1)))) : jX3_restingSet_23 d a2 a3 x4 M K y4 y5 y6 := by
  unfold jX3_restingSet_23
  refine mm_iload (pc := 23) (j := 6) dX3_restingSet_23 rfl ?_
  refine mm_sipush (pc := 25) (x := 128) dX3_restingSet_25 rfl ?_
  refine mm_icmp_ge (pc := 28) (tgt := 72) dX3_restingSet_28 (by decide) (fun hc => ?_) (fun hc => ?_)
  · have h := mm_ift hc h
    refine mm_iconst (pc := 72) (x := 0) dX3_restingSet_72 rfl ?_
    refine mm_istore (pc := 73) (lv' := [(6, .int 0), (0, .ref 156), (1, .ref 21), (2, .ref a2), (3, .ref a3), (4, .int y4), (5, .int y5)]) dX3_restingSet_73 (by decide) rfl ?_
    exact mm_sub [1, 2, 3, 4, 5, 6, 0] rfl h
  · have h := mm_iff hc h
    refine mm_iload (pc := 31) (j := 6) dX3_restingSet_31 rfl ?_
    refine mm_aload_n (pc := 33) (j := 2) dX3_restingSet_33 rfl rfl ?_
    refine mm_getI (pc := 34) (ci := 9) (N := 7) dX3_restingSet_34 fX3_43 (sh_St ha2) rfl ?_
    refine mm_iconst (pc := 37) (x := (-1)) dX3_restingSet_37 rfl ?_
    refine mm_ixor (pc := 38) dX3_restingSet_38 ?_
    refine mm_iand (pc := 39) dX3_restingSet_39 ?_
    refine mm_if_ne (pc := 40) (tgt := 66) dX3_restingSet_40 (by decide) (fun hc => ?_) (fun hc => ?_)
    · have h := mm_iff hc h
      refine mm_iinc (pc := 66) (j := 6) (v := y6 + 1) (lv' := [(6, .int (y6 + 1)), (0, .ref 156), (1, .ref 21), (2, .ref a2), (3, .ref a3), (4, .int y4), (5, .int y5)]) dX3_restingSet_66 rfl rfl (by decide) rfl ?_
      refine mm_goto (pc := 69) (tgt := 23) dX3_restingSet_69 (by decide) ?_
      exact mm_sub [1, 2, 3, 4, 5, 6, 0] rfl h
    · have h := mm_ift hc h
      refine mm_iload (pc := 43) (j := 6) dX3_restingSet_43 rfl ?_
      refine mm_kSI (pc := 45) [.int y6] dX3_restingSet_45 kX3_49 rfl (Nat.le_of_ble_eq_true rfl) (Nat.le_of_ble_eq_true rfl) h (fun z45 m45 hG h => ?_)
      refine mm_iload (pc := 48) (j := 5) dX3_restingSet_48 rfl ?_
      refine mm_iconst (pc := 50) (x := 1) dX3_restingSet_50 rfl ?_
      refine mm_iadd (pc := 51) dX3_restingSet_51 ?_
      refine mm_icmp_ne (pc := 52) (tgt := 66) dX3_restingSet_52 (by decide) (fun hc => ?_) (fun hc => ?_)
      · have h := mm_iff hc h
        refine mm_iinc (pc := 66) (j := 6) (v := y6 + 1) (lv' := [(6, .int (y6 + 1)), (0, .ref 156), (1, .ref 21), (2, .ref a2), (3, .ref a3), (4, .int y4), (5, .int y5)]) dX3_restingSet_66 rfl rfl (by decide) rfl ?_
        refine mm_goto (pc := 69) (tgt := 23) dX3_restingSet_69 (by decide) ?_
        exact mm_sub [1, 2, 3, 4, 5, 6, 0] rfl h
      · have h := mm_ift hc h
        refine mm_aload_n (pc := 55) (j := 0) dX3_restingSet_55 rfl rfl ?_
        refine mm_aload_n (pc := 56) (j := 1) dX3_restingSet_56 rfl rfl ?_
        refine mm_aload_n (pc := 57) (j := 2) dX3_restingSet_57 rfl rfl ?_
        refine mm_aload_n (pc := 58) (j := 3) dX3_restingSet_58 rfl rfl ?_
        refine mm_iload (pc := 59) (j := 4) dX3_restingSet_59 rfl ?_
        refine mm_iload (pc := 61) (j := 6) dX3_restingSet_61 rfl ?_
        refine mm_kVV (pc := 63) [.ref 21, .ref a2, .ref a3, .int y4, .int y6] dX3_restingSet_63 kX3_70 rfl sh_156 (Nat.le_of_ble_eq_true rfl) (Nat.le_of_ble_eq_true rfl) h (fun m63 hG h => ?_)
        refine mm_iinc (pc := 66) (j := 6) (v := y6 + 1) (lv' := [(6, .int (y6 + 1)), (0, .ref 156), (1, .ref 21), (2, .ref a2), (3, .ref a3), (4, .int y4), (5, .int y5)]) dX3_restingSet_66 rfl rfl (by decide) rfl ?_
        refine mm_goto (pc := 69) (tgt := 23) dX3_restingSet_69 (by decide) ?_
        exact mm_sub [1, 2, 3, 4, 5, 6, 0] rfl h
set_option maxRecDepth 100000 in
set_option maxHeartbeats 4000000 in
theorem lX3_restingSet_75 {d : Nat} {a2 : Nat} {a3 : Nat} {x4 : Int32} {M : mm_M} {K : Int32 → mm_M → Prop} {y4 : Int32} {y5 : Int32} {y6 : Int32} (ha2 : a2 ∈ mm_Sts) (ha3 : a3 ∈ mm_Sts) (hG : mm_G M.2.2) (h : if 128 ≤ y6 then (jX3_restingSet_13 d a2 a3 x4 M K y4 (y5 + 1)) else (if (y6 &&& ((M.1 a2 1) ^^^ (-1))) = 0 then (mm_CI mJ6_bitCount_0f7a4 d [.int y6] M (fun z97 m97 => if z97 = y5 then (mm_CI mX3_isAtRest d [.ref 156, .ref a2, .int y6] m97 (fun z109 m109 => if z109 = 0 then (jX3_restingSet_75 d a2 a3 x4 m109 K y4 y5 (y6 + 1)) else (K y6 m109))) else (jX3_restingSet_75 d a2 a3 x4 m97 K y4 y5 (y6 + 1)))) else (jX3_restingSet_75 d a2 a3 x4 M K y4 y5 (y6 + 1)))) : jX3_restingSet_75 d a2 a3 x4 M K y4 y5 y6 := by
  unfold jX3_restingSet_75
  refine mm_iload (pc := 75) (j := 6) dX3_restingSet_75 rfl ?_
  refine mm_sipush (pc := 77) (x := 128) dX3_restingSet_77 rfl ?_
  refine mm_icmp_ge (pc := 80) (tgt := 124) dX3_restingSet_80 (by decide) (fun hc => ?_) (fun hc => ?_)
  · have h := mm_ift hc h
    refine mm_iinc (pc := 124) (j := 5) (v := y5 + 1) (lv' := [(5, .int (y5 + 1)), (0, .ref 156), (1, .ref 21), (2, .ref a2), (3, .ref a3), (4, .int y4), (6, .int y6)]) dX3_restingSet_124 rfl rfl (by decide) rfl ?_
    refine mm_goto (pc := 127) (tgt := 13) dX3_restingSet_127 (by decide) ?_
    exact mm_sub [1, 2, 3, 4, 5, 0] rfl h
  · have h := mm_iff hc h
    refine mm_iload (pc := 83) (j := 6) dX3_restingSet_83 rfl ?_
    refine mm_aload_n (pc := 85) (j := 2) dX3_restingSet_85 rfl rfl ?_
    refine mm_getI (pc := 86) (ci := 9) (N := 7) dX3_restingSet_86 fX3_43 (sh_St ha2) rfl ?_
    refine mm_iconst (pc := 89) (x := (-1)) dX3_restingSet_89 rfl ?_
    refine mm_ixor (pc := 90) dX3_restingSet_90 ?_
    refine mm_iand (pc := 91) dX3_restingSet_91 ?_
    refine mm_if_ne (pc := 92) (tgt := 118) dX3_restingSet_92 (by decide) (fun hc => ?_) (fun hc => ?_)
    · have h := mm_iff hc h
      refine mm_iinc (pc := 118) (j := 6) (v := y6 + 1) (lv' := [(6, .int (y6 + 1)), (0, .ref 156), (1, .ref 21), (2, .ref a2), (3, .ref a3), (4, .int y4), (5, .int y5)]) dX3_restingSet_118 rfl rfl (by decide) rfl ?_
      refine mm_goto (pc := 121) (tgt := 75) dX3_restingSet_121 (by decide) ?_
      exact mm_sub [1, 2, 3, 4, 5, 6, 0] rfl h
    · have h := mm_ift hc h
      refine mm_iload (pc := 95) (j := 6) dX3_restingSet_95 rfl ?_
      refine mm_kSI (pc := 97) [.int y6] dX3_restingSet_97 kX3_49 rfl (Nat.le_of_ble_eq_true rfl) (Nat.le_of_ble_eq_true rfl) h (fun z97 m97 hG h => ?_)
      refine mm_iload (pc := 100) (j := 5) dX3_restingSet_100 rfl ?_
      refine mm_icmp_ne (pc := 102) (tgt := 118) dX3_restingSet_102 (by decide) (fun hc => ?_) (fun hc => ?_)
      · have h := mm_iff hc h
        refine mm_iinc (pc := 118) (j := 6) (v := y6 + 1) (lv' := [(6, .int (y6 + 1)), (0, .ref 156), (1, .ref 21), (2, .ref a2), (3, .ref a3), (4, .int y4), (5, .int y5)]) dX3_restingSet_118 rfl rfl (by decide) rfl ?_
        refine mm_goto (pc := 121) (tgt := 75) dX3_restingSet_121 (by decide) ?_
        exact mm_sub [1, 2, 3, 4, 5, 6, 0] rfl h
      · have h := mm_ift hc h
        refine mm_aload_n (pc := 105) (j := 0) dX3_restingSet_105 rfl rfl ?_
        refine mm_aload_n (pc := 106) (j := 2) dX3_restingSet_106 rfl rfl ?_
        refine mm_iload (pc := 107) (j := 6) dX3_restingSet_107 rfl ?_
        refine mm_kVI (pc := 109) [.ref a2, .int y6] dX3_restingSet_109 kX3_74 rfl sh_156 (Nat.le_of_ble_eq_true rfl) (Nat.le_of_ble_eq_true rfl) h (fun z109 m109 hG h => ?_)
        refine mm_if_eq (pc := 112) (tgt := 118) dX3_restingSet_112 (by decide) (fun hc => ?_) (fun hc => ?_)
        · have h := mm_ift hc h
          refine mm_iinc (pc := 118) (j := 6) (v := y6 + 1) (lv' := [(6, .int (y6 + 1)), (0, .ref 156), (1, .ref 21), (2, .ref a2), (3, .ref a3), (4, .int y4), (5, .int y5)]) dX3_restingSet_118 rfl rfl (by decide) rfl ?_
          refine mm_goto (pc := 121) (tgt := 75) dX3_restingSet_121 (by decide) ?_
          exact mm_sub [1, 2, 3, 4, 5, 6, 0] rfl h
        · have h := mm_iff hc h
          refine mm_iload (pc := 115) (j := 6) dX3_restingSet_115 rfl ?_
          exact mm_iret (pc := 117) dX3_restingSet_117 rfl (Nat.le_refl 0) (Nat.le_refl 0) ⟨_, rfl, rfl, hG, h⟩
def jX3_goHungry_8 (d : Nat) (a2 : Nat) (a3 : Nat) (x4 : Int32) (x5 : Int32) (M : mm_M) (K : mm_M → Prop) (y4 : Int32) (y5 : Int32) (y6 : Int32) : Prop := mm_W mX3_goHungry (d + 1) 0 0 8 [(0, .ref 156), (1, .ref 21), (3, .ref a3), (4, .int y4), (5, .int y5), (6, .int y6)] [] mm_SH M 0 0 (mm_PV K)
def jX3_goHungry_32 (d : Nat) (a2 : Nat) (a3 : Nat) (x4 : Int32) (x5 : Int32) (M : mm_M) (K : mm_M → Prop) (y5 : Int32) (y6 : Int32) : Prop := mm_W mX3_goHungry (d + 1) 0 0 32 [(0, .ref 156), (3, .ref a3), (5, .int y5), (6, .int y6)] [] mm_SH M 0 0 (mm_PV K)
set_option maxRecDepth 100000 in
set_option maxHeartbeats 4000000 in
theorem rX3_goHungry {d : Nat} {a2 : Nat} {a3 : Nat} {x4 : Int32} {x5 : Int32} {M : mm_M} {K : mm_M → Prop} (ha2 : a2 ∈ mm_Sts) (ha3 : a3 ∈ mm_Sts) (hG : mm_G M.2.2) (h : mm_CV mX9_copyFrom d [.ref a3, .ref a2] M (fun m2 => jX3_goHungry_8 d a2 a3 x4 x5 m2 K x4 x5 0)) : mm_CV mX3_goHungry (d + 1) [.ref 156, .ref 21, .ref a2, .ref a3, .int x4, .int x5] M K := by
  show mm_W mX3_goHungry (d + 1) 0 0 0 [(0, .ref 156), (1, .ref 21), (2, .ref a2), (3, .ref a3), (4, .int x4), (5, .int x5)] [] mm_SH M 0 0 (mm_PV K)
  refine mm_aload_n (pc := 0) (j := 3) dX3_goHungry_0 rfl rfl ?_
  refine mm_aload_n (pc := 1) (j := 2) dX3_goHungry_1 rfl rfl ?_
  refine mm_kVV (pc := 2) [.ref a2] dX3_goHungry_2 kX3_32 rfl (sh_St ha3) (Nat.le_of_ble_eq_true rfl) (Nat.le_of_ble_eq_true rfl) h (fun m2 hG h => ?_)
  refine mm_iconst (pc := 5) (x := 0) dX3_goHungry_5 rfl ?_
  refine mm_istore (pc := 6) (lv' := [(6, .int 0), (0, .ref 156), (1, .ref 21), (2, .ref a2), (3, .ref a3), (4, .int x4), (5, .int x5)]) dX3_goHungry_6 (by decide) rfl ?_
  exact mm_sub [1, 2, 4, 5, 6, 0] rfl h
set_option maxRecDepth 100000 in
set_option maxHeartbeats 4000000 in
theorem lX3_goHungry_8 {d : Nat} {a2 : Nat} {a3 : Nat} {x4 : Int32} {x5 : Int32} {M : mm_M} {K : mm_M → Prop} {y4 : Int32} {y5 : Int32} {y6 : Int32} (ha2 : a2 ∈ mm_Sts) (ha3 : a3 ∈ mm_Sts) (hG : mm_G M.2.2) (h : if y4 ≤ y6 then (jX3_goHungry_32 d a2 a3 x4 x5 M K y5 0) else (mm_CV mX1_run d [.ref 21, .ref a3, .int y5, .int 0] M (fun m20 => jX3_goHungry_8 d a2 a3 x4 x5 m20 K y4 y5 (y6 + 1)))) : jX3_goHungry_8 d a2 a3 x4 x5 M K y4 y5 y6 := by
  unfold jX3_goHungry_8
  refine mm_iload (pc := 8) (j := 5) dX3_goHungry_8 rfl ?_
  refine mm_iload (pc := 10) (j := 3) dX3_goHungry_10 rfl ?_
  refine mm_icmp_ge (pc := 12) (tgt := 29) dX3_goHungry_12 (by decide) (fun hc => ?_) (fun hc => ?_)
  · have h := mm_ift hc h
    refine mm_iconst (pc := 29) (x := 0) dX3_goHungry_29 rfl ?_
    refine mm_istore (pc := 30) (lv' := [(6, .int 0), (0, .ref 156), (1, .ref 21), (3, .ref a3), (4, .int y4), (5, .int y5)]) dX3_goHungry_30 (by decide) rfl ?_
    exact mm_sub [1, 3, 5, 0] rfl h
  · have h := mm_iff hc h
    refine mm_aload_n (pc := 15) (j := 1) dX3_goHungry_15 rfl rfl ?_
    refine mm_aload_n (pc := 16) (j := 2) dX3_goHungry_16 rfl rfl ?_
    refine mm_iload (pc := 17) (j := 4) dX3_goHungry_17 rfl ?_
    refine mm_iconst (pc := 19) (x := 0) dX3_goHungry_19 rfl ?_
    refine mm_kVV (pc := 20) [.ref a3, .int y5, .int 0] dX3_goHungry_20 kX3_37 rfl sh_21 (Nat.le_of_ble_eq_true rfl) (Nat.le_of_ble_eq_true rfl) h (fun m20 hG h => ?_)
    refine mm_iinc (pc := 23) (j := 5) (v := y6 + 1) (lv' := [(6, .int (y6 + 1)), (0, .ref 156), (1, .ref 21), (3, .ref a3), (4, .int y4), (5, .int y5)]) dX3_goHungry_23 rfl rfl (by decide) rfl ?_
    refine mm_goto (pc := 26) (tgt := 8) dX3_goHungry_26 (by decide) ?_
    exact mm_sub [1, 2, 3, 4, 5, 0] rfl h
set_option maxRecDepth 100000 in
set_option maxHeartbeats 4000000 in
theorem lX3_goHungry_32 {d : Nat} {a2 : Nat} {a3 : Nat} {x4 : Int32} {x5 : Int32} {M : mm_M} {K : mm_M → Prop} {y5 : Int32} {y6 : Int32} (ha2 : a2 ∈ mm_Sts) (ha3 : a3 ∈ mm_Sts) (hG : mm_G M.2.2) (h : if 7 ≤ y6 then (K M) else (if y5 < 0 then (K M) else (if 128 ≤ y5 then (K M) else (mm_CI mX9_isThere d [.ref a3, .int y6] M (fun z67 m67 => if z67 = 0 then (vp_in ((y5 * 7) + y6) 896 ∧ jX3_goHungry_32 d a2 a3 x4 x5 (mm_uI m67 158 ((y5 * 7) + y6).toNatClampNeg 10) K y5 (y6 + 1)) else (vp_in y6 7 ∧ vp_in ((y5 * 7) + y6) 896 ∧ jX3_goHungry_32 d a2 a3 x4 x5 (mm_uI m67 158 ((y5 * 7) + y6).toNatClampNeg (m67.1 (a3 + 2) y6.toNatClampNeg)) K y5 (y6 + 1))))))) : jX3_goHungry_32 d a2 a3 x4 x5 M K y5 y6 := by
  unfold jX3_goHungry_32
  refine mm_iload (pc := 32) (j := 3) dX3_goHungry_32 rfl ?_
  refine mm_bipush (pc := 34) (x := 7) dX3_goHungry_34 rfl ?_
  refine mm_icmp_ge (pc := 36) (tgt := 92) dX3_goHungry_36 (by decide) (fun hc => ?_) (fun hc => ?_)
  · have h := mm_ift hc h
    exact mm_vret (pc := 92) dX3_goHungry_92 rfl (Nat.le_refl 0) (Nat.le_refl 0) ⟨rfl, rfl, hG, h⟩
  · have h := mm_iff hc h
    refine mm_iload (pc := 39) (j := 2) dX3_goHungry_39 rfl ?_
    refine mm_if_lt (pc := 41) (tgt := 92) dX3_goHungry_41 (by decide) (fun hc => ?_) (fun hc => ?_)
    · have h := mm_ift hc h
      exact mm_vret (pc := 92) dX3_goHungry_92 rfl (Nat.le_refl 0) (Nat.le_refl 0) ⟨rfl, rfl, hG, h⟩
    · have h := mm_iff hc h
      refine mm_iload (pc := 44) (j := 2) dX3_goHungry_44 rfl ?_
      refine mm_sipush (pc := 46) (x := 128) dX3_goHungry_46 rfl ?_
      refine mm_icmp_ge (pc := 49) (tgt := 92) dX3_goHungry_49 (by decide) (fun hc => ?_) (fun hc => ?_)
      · have h := mm_ift hc h
        exact mm_vret (pc := 92) dX3_goHungry_92 rfl (Nat.le_refl 0) (Nat.le_refl 0) ⟨rfl, rfl, hG, h⟩
      · have h := mm_iff hc h
        refine mm_aload_n (pc := 52) (j := 0) dX3_goHungry_52 rfl rfl ?_
        refine mm_getR (pc := 53) (ci := 3) (N := 6) (r := 158) dX3_goHungry_53 fX3_19 sh_156 rfl (g_156_5 hG) ?_
        refine mm_iload (pc := 56) (j := 2) dX3_goHungry_56 rfl ?_
        refine mm_bipush (pc := 58) (x := 7) dX3_goHungry_58 rfl ?_
        refine mm_imul (pc := 60) dX3_goHungry_60 ?_
        refine mm_iload (pc := 61) (j := 3) dX3_goHungry_61 rfl ?_
        refine mm_iadd (pc := 63) dX3_goHungry_63 ?_
        refine mm_aload_n (pc := 64) (j := 1) dX3_goHungry_64 rfl rfl ?_
        refine mm_iload (pc := 65) (j := 3) dX3_goHungry_65 rfl ?_
        refine mm_kVI (pc := 67) [.int y6] dX3_goHungry_67 kX3_78 rfl (sh_St ha3) (Nat.le_of_ble_eq_true rfl) (Nat.le_of_ble_eq_true rfl) h (fun z67 m67 hG h => ?_)
        refine mm_if_eq (pc := 70) (tgt := 83) dX3_goHungry_70 (by decide) (fun hc => ?_) (fun hc => ?_)
        · have h := mm_ift hc h
          refine mm_bipush (pc := 83) (x := 10) dX3_goHungry_83 rfl ?_
          obtain ⟨hi85, h⟩ := h
          refine mm_iastore (pc := 85) (N := 896) dX3_goHungry_85 sh_158 hi85 ?_
          refine mm_iinc (pc := 86) (j := 3) (v := y6 + 1) (lv' := [(6, .int (y6 + 1)), (0, .ref 156), (3, .ref a3), (5, .int y5)]) dX3_goHungry_86 rfl rfl (by decide) rfl ?_
          refine mm_goto (pc := 89) (tgt := 32) dX3_goHungry_89 (by decide) ?_
          exact mm_sub [1, 2, 3, 0] rfl h
        · have h := mm_iff hc h
          refine mm_aload_n (pc := 73) (j := 1) dX3_goHungry_73 rfl rfl ?_
          refine mm_getR (pc := 74) (ci := 9) (N := 7) (r := a3 + 2) dX3_goHungry_74 fX3_82 (sh_St ha3) rfl (g_St_4 hG ha3) ?_
          refine mm_iload (pc := 77) (j := 3) dX3_goHungry_77 rfl ?_
          obtain ⟨hi79, h⟩ := h
          refine mm_iaload (pc := 79) (N := 7) dX3_goHungry_79 (sh_St_2 ha3) hi79 ?_
          refine mm_goto (pc := 80) (tgt := 85) dX3_goHungry_80 (by decide) ?_
          obtain ⟨hi85, h⟩ := h
          refine mm_iastore (pc := 85) (N := 896) dX3_goHungry_85 sh_158 hi85 ?_
          refine mm_iinc (pc := 86) (j := 3) (v := y6 + 1) (lv' := [(6, .int (y6 + 1)), (0, .ref 156), (3, .ref a3), (5, .int y5)]) dX3_goHungry_86 rfl rfl (by decide) rfl ?_
          refine mm_goto (pc := 89) (tgt := 32) dX3_goHungry_89 (by decide) ?_
          exact mm_sub [1, 2, 3, 0] rfl h
def jX3_isAtRest_2 (d : Nat) (a1 : Nat) (x2 : Int32) (M : mm_M) (K : Int32 → mm_M → Prop) (y2 : Int32) (y3 : Int32) : Prop := mm_W mX3_isAtRest (d + 1) 0 0 2 [(0, .ref 156), (1, .ref a1), (2, .int y2), (3, .int y3)] [] mm_SH M 0 0 (mm_PI K)
set_option maxRecDepth 100000 in
set_option maxHeartbeats 4000000 in
theorem rX3_isAtRest {d : Nat} {a1 : Nat} {x2 : Int32} {M : mm_M} {K : Int32 → mm_M → Prop} (ha1 : a1 ∈ mm_Sts) (hG : mm_G M.2.2) (h : jX3_isAtRest_2 d a1 x2 M K x2 0) : mm_CI mX3_isAtRest (d + 1) [.ref 156, .ref a1, .int x2] M K := by
  show mm_W mX3_isAtRest (d + 1) 0 0 0 [(0, .ref 156), (1, .ref a1), (2, .int x2)] [] mm_SH M 0 0 (mm_PI K)
  refine mm_iconst (pc := 0) (x := 0) dX3_isAtRest_0 rfl ?_
  refine mm_istore_n (pc := 1) (lv' := [(3, .int 0), (0, .ref 156), (1, .ref a1), (2, .int x2)]) dX3_isAtRest_1 rfl (by decide) rfl ?_
  exact mm_sub [1, 2, 3, 0] rfl h
set_option maxRecDepth 100000 in
set_option maxHeartbeats 4000000 in
theorem lX3_isAtRest_2 {d : Nat} {a1 : Nat} {x2 : Int32} {M : mm_M} {K : Int32 → mm_M → Prop} {y2 : Int32} {y3 : Int32} (ha1 : a1 ∈ mm_Sts) (hG : mm_G M.2.2) (h : if 7 ≤ y3 then (K 1 M) else (mm_CI mX9_isThere d [.ref a1, .int y3] M (fun z17 m17 => if z17 = 0 then (jX3_isAtRest_2 d a1 x2 m17 K y2 (y3 + 1)) else (if y2 < 0 then (jX3_isAtRest_2 d a1 x2 m17 K y2 (y3 + 1)) else (if 128 ≤ y2 then (jX3_isAtRest_2 d a1 x2 m17 K y2 (y3 + 1)) else (vp_in (((y2 ^^^ ((1 : Int32) <<< (y3 &&& 31))) * 7) + y3) 896 ∧ vp_in ((y2 * 7) + y3) 896 ∧ if (m17.1 158 ((y2 * 7) + y3).toNatClampNeg) ≤ (m17.1 158 (((y2 ^^^ ((1 : Int32) <<< (y3 &&& 31))) * 7) + y3).toNatClampNeg) then (jX3_isAtRest_2 d a1 x2 m17 K y2 (y3 + 1)) else (K 0 m17))))))) : jX3_isAtRest_2 d a1 x2 M K y2 y3 := by
  unfold jX3_isAtRest_2
  refine mm_iload_n (pc := 2) (j := 3) dX3_isAtRest_2 rfl rfl ?_
  refine mm_bipush (pc := 3) (x := 7) dX3_isAtRest_3 rfl ?_
  refine mm_icmp_ge (pc := 5) (tgt := 68) dX3_isAtRest_5 (by decide) (fun hc => ?_) (fun hc => ?_)
  · have h := mm_ift hc h
    refine mm_iconst (pc := 68) (x := 1) dX3_isAtRest_68 rfl ?_
    exact mm_zret (pc := 69) dX3_isAtRest_69 rfl rfl (Nat.le_refl 0) (Nat.le_refl 0) ⟨_, rfl, rfl, hG, h⟩
  · have h := mm_iff hc h
    refine mm_iload_n (pc := 8) (j := 2) dX3_isAtRest_8 rfl rfl ?_
    refine mm_iconst (pc := 9) (x := 1) dX3_isAtRest_9 rfl ?_
    refine mm_iload_n (pc := 10) (j := 3) dX3_isAtRest_10 rfl rfl ?_
    refine mm_ishl (pc := 11) dX3_isAtRest_11 ?_
    refine mm_ixor (pc := 12) dX3_isAtRest_12 ?_
    refine mm_istore (pc := 13) (lv' := [(4, .int (y2 ^^^ ((1 : Int32) <<< (y3 &&& 31)))), (0, .ref 156), (1, .ref a1), (2, .int y2), (3, .int y3)]) dX3_isAtRest_13 (by decide) rfl ?_
    refine mm_aload_n (pc := 15) (j := 2) dX3_isAtRest_15 rfl rfl ?_
    refine mm_iload_n (pc := 16) (j := 4) dX3_isAtRest_16 rfl rfl ?_
    refine mm_kVI (pc := 17) [.int y3] dX3_isAtRest_17 kX3_78 rfl (sh_St ha1) (Nat.le_of_ble_eq_true rfl) (Nat.le_of_ble_eq_true rfl) h (fun z17 m17 hG h => ?_)
    refine mm_if_eq (pc := 20) (tgt := 62) dX3_isAtRest_20 (by decide) (fun hc => ?_) (fun hc => ?_)
    · have h := mm_ift hc h
      refine mm_iinc (pc := 62) (j := 4) (v := y3 + 1) (lv' := [(3, .int (y3 + 1)), (4, .int (y2 ^^^ ((1 : Int32) <<< (y3 &&& 31)))), (0, .ref 156), (1, .ref a1), (2, .int y2)]) dX3_isAtRest_62 rfl rfl (by decide) rfl ?_
      refine mm_goto (pc := 65) (tgt := 2) dX3_isAtRest_65 (by decide) ?_
      exact mm_sub [2, 3, 4, 0] rfl h
    · have h := mm_iff hc h
      refine mm_iload_n (pc := 23) (j := 3) dX3_isAtRest_23 rfl rfl ?_
      refine mm_if_lt (pc := 24) (tgt := 62) dX3_isAtRest_24 (by decide) (fun hc => ?_) (fun hc => ?_)
      · have h := mm_ift hc h
        refine mm_iinc (pc := 62) (j := 4) (v := y3 + 1) (lv' := [(3, .int (y3 + 1)), (4, .int (y2 ^^^ ((1 : Int32) <<< (y3 &&& 31)))), (0, .ref 156), (1, .ref a1), (2, .int y2)]) dX3_isAtRest_62 rfl rfl (by decide) rfl ?_
        refine mm_goto (pc := 65) (tgt := 2) dX3_isAtRest_65 (by decide) ?_
        exact mm_sub [2, 3, 4, 0] rfl h
      · have h := mm_iff hc h
        refine mm_iload_n (pc := 27) (j := 3) dX3_isAtRest_27 rfl rfl ?_
        refine mm_sipush (pc := 28) (x := 128) dX3_isAtRest_28 rfl ?_
        refine mm_icmp_ge (pc := 31) (tgt := 62) dX3_isAtRest_31 (by decide) (fun hc => ?_) (fun hc => ?_)
        · have h := mm_ift hc h
          refine mm_iinc (pc := 62) (j := 4) (v := y3 + 1) (lv' := [(3, .int (y3 + 1)), (4, .int (y2 ^^^ ((1 : Int32) <<< (y3 &&& 31)))), (0, .ref 156), (1, .ref a1), (2, .int y2)]) dX3_isAtRest_62 rfl rfl (by decide) rfl ?_
          refine mm_goto (pc := 65) (tgt := 2) dX3_isAtRest_65 (by decide) ?_
          exact mm_sub [2, 3, 4, 0] rfl h
        · have h := mm_iff hc h
          refine mm_aload_n (pc := 34) (j := 1) dX3_isAtRest_34 rfl rfl ?_
          refine mm_getR (pc := 35) (ci := 3) (N := 6) (r := 158) dX3_isAtRest_35 fX3_19 sh_156 rfl (g_156_5 hG) ?_
          refine mm_iload (pc := 38) (j := 0) dX3_isAtRest_38 rfl ?_
          refine mm_bipush (pc := 40) (x := 7) dX3_isAtRest_40 rfl ?_
          refine mm_imul (pc := 42) dX3_isAtRest_42 ?_
          refine mm_iload_n (pc := 43) (j := 4) dX3_isAtRest_43 rfl rfl ?_
          refine mm_iadd (pc := 44) dX3_isAtRest_44 ?_
          obtain ⟨hi45, h⟩ := h
          refine mm_iaload (pc := 45) (N := 896) dX3_isAtRest_45 sh_158 hi45 ?_
          refine mm_aload_n (pc := 46) (j := 1) dX3_isAtRest_46 rfl rfl ?_
          refine mm_getR (pc := 47) (ci := 3) (N := 6) (r := 158) dX3_isAtRest_47 fX3_19 sh_156 rfl (g_156_5 hG) ?_
          refine mm_iload_n (pc := 50) (j := 3) dX3_isAtRest_50 rfl rfl ?_
          refine mm_bipush (pc := 51) (x := 7) dX3_isAtRest_51 rfl ?_
          refine mm_imul (pc := 53) dX3_isAtRest_53 ?_
          refine mm_iload_n (pc := 54) (j := 4) dX3_isAtRest_54 rfl rfl ?_
          refine mm_iadd (pc := 55) dX3_isAtRest_55 ?_
          obtain ⟨hi56, h⟩ := h
          refine mm_iaload (pc := 56) (N := 896) dX3_isAtRest_56 sh_158 hi56 ?_
          refine mm_icmp_ge (pc := 57) (tgt := 62) dX3_isAtRest_57 (by decide) (fun hc => ?_) (fun hc => ?_)
          · have h := mm_ift hc h
            refine mm_iinc (pc := 62) (j := 4) (v := y3 + 1) (lv' := [(3, .int (y3 + 1)), (4, .int (y2 ^^^ ((1 : Int32) <<< (y3 &&& 31)))), (0, .ref 156), (1, .ref a1), (2, .int y2)]) dX3_isAtRest_62 rfl rfl (by decide) rfl ?_
            refine mm_goto (pc := 65) (tgt := 2) dX3_isAtRest_65 (by decide) ?_
            exact mm_sub [2, 3, 4, 0] rfl h
          · have h := mm_iff hc h
            refine mm_iconst (pc := 60) (x := 0) dX3_isAtRest_60 rfl ?_
            exact mm_zret (pc := 61) dX3_isAtRest_61 rfl rfl (Nat.le_refl 0) (Nat.le_refl 0) ⟨_, rfl, rfl, hG, h⟩
def jX4_remember_19 (d : Nat) (a1 : Nat) (M : mm_M) (K : mm_M → Prop) : Prop := mm_W mX4_remember (d + 1) 0 0 19 [(0, .ref 47)] [] mm_SH M 0 0 (mm_PV K)
set_option maxRecDepth 100000 in
set_option maxHeartbeats 4000000 in
theorem rX4_remember {d : Nat} {a1 : Nat} {M : mm_M} {K : mm_M → Prop} (ha1 : a1 ∈ mm_Sts) (hG : mm_G M.2.2) (h : vp_in (M.1 47 1) 20 ∧ ∃ q8 : Nat, M.2.2 48 (M.1 47 1).toNatClampNeg = some q8 ∧ q8 ∈ mm_Sts ∧ mm_CV mX9_copyFrom d [.ref q8, .ref a1] M (fun m16 => jX4_remember_19 d a1 m16 K)) : mm_CV mX4_remember (d + 1) [.ref 47, .ref a1] M K := by
  show mm_W mX4_remember (d + 1) 0 0 0 [(0, .ref 47), (1, .ref a1)] [] mm_SH M 0 0 (mm_PV K)
  refine mm_aload_n (pc := 0) (j := 0) dX4_remember_0 rfl rfl ?_
  refine mm_getR (pc := 1) (ci := 4) (N := 3) (r := 48) dX4_remember_1 fX4_11 sh_47 rfl (g_47_0 hG) ?_
  refine mm_aload_n (pc := 4) (j := 0) dX4_remember_4 rfl rfl ?_
  refine mm_getI (pc := 5) (ci := 4) (N := 3) dX4_remember_5 fX4_16 sh_47 rfl ?_
  obtain ⟨hi8, q8, he8, hq8, h⟩ := h
  refine mm_aaload (pc := 8) (N := 20) (r := q8) dX4_remember_8 sh_48 hi8 he8 ?_
  refine mm_astore_n (pc := 9) (lv' := [(2, .ref q8), (0, .ref 47), (1, .ref a1)]) dX4_remember_9 rfl (by decide) rfl ?_
  refine mm_aload_n (pc := 10) (j := 0) dX4_remember_10 rfl rfl ?_
  refine mm_ifnull (pc := 11) dX4_remember_11 ?_
  refine mm_aload_n (pc := 14) (j := 0) dX4_remember_14 rfl rfl ?_
  refine mm_aload_n (pc := 15) (j := 2) dX4_remember_15 rfl rfl ?_
  refine mm_kVV (pc := 16) [.ref a1] dX4_remember_16 kX4_20 rfl (sh_St hq8) (Nat.le_of_ble_eq_true rfl) (Nat.le_of_ble_eq_true rfl) h (fun m16 hG h => ?_)
  exact mm_sub [1] rfl h
set_option maxRecDepth 100000 in
set_option maxHeartbeats 4000000 in
theorem lX4_remember_19 {d : Nat} {a1 : Nat} {M : mm_M} {K : mm_M → Prop} (ha1 : a1 ∈ mm_Sts) (hG : mm_G M.2.2) (h : K (mm_uI (mm_uI M 47 1 (((M.1 47 1) + 1) - ((M.1 47 1) + 1) / 20 * 20)) 47 2 (if 20 < (((mm_uI M 47 1 (((M.1 47 1) + 1) - ((M.1 47 1) + 1) / 20 * 20)).1 47 2) + 1) then 20 else (((mm_uI M 47 1 (((M.1 47 1) + 1) - ((M.1 47 1) + 1) / 20 * 20)).1 47 2) + 1)))) : jX4_remember_19 d a1 M K  := by
  unfold jX4_remember_19
  refine mm_aload_n (pc := 19) (j := 0) dX4_remember_19 rfl rfl ?_
  refine mm_aload_n (pc := 20) (j := 0) dX4_remember_20 rfl rfl ?_
  refine mm_getI (pc := 21) (ci := 4) (N := 3) dX4_remember_21 fX4_16 sh_47 rfl ?_
  refine mm_iconst (pc := 24) (x := 1) dX4_remember_24 rfl ?_
  refine mm_iadd (pc := 25) dX4_remember_25 ?_
  refine mm_bipush (pc := 26) (x := 20) dX4_remember_26 rfl ?_
  refine mm_irem (pc := 28) dX4_remember_28 (by decide) ?_
  refine mm_putI (pc := 29) (ci := 4) (N := 3) dX4_remember_29 fX4_16 sh_47 (by decide +kernel) rfl rfl rfl ?_
  refine mm_aload_n (pc := 32) (j := 0) dX4_remember_32 rfl rfl ?_
  refine mm_aload_n (pc := 33) (j := 0) dX4_remember_33 rfl rfl ?_
  refine mm_getI (pc := 34) (ci := 4) (N := 3) dX4_remember_34 fX4_24 sh_47 rfl ?_
  refine mm_iconst (pc := 37) (x := 1) dX4_remember_37 rfl ?_
  refine mm_iadd (pc := 38) dX4_remember_38 ?_
  refine mm_bipush (pc := 39) (x := 20) dX4_remember_39 rfl ?_
  refine mm_mmin (pc := 41) dX4_remember_41 kX4_27 ma_min_s ma_ini ma_min_c (Nat.le_of_ble_eq_true rfl) (Nat.le_refl 0) (Nat.le_refl 0) ?_
  refine mm_putI (pc := 44) (ci := 4) (N := 3) dX4_remember_44 fX4_24 sh_47 (by decide +kernel) rfl rfl rfl ?_
  exact mm_vret (pc := 47) dX4_remember_47 rfl (Nat.le_refl 0) (Nat.le_refl 0) ⟨rfl, rfl, hG, h⟩
set_option maxRecDepth 100000 in
set_option maxHeartbeats 4000000 in
theorem rX4_goBack {d : Nat} {a1 : Nat} {M : mm_M} {K : Int32 → mm_M → Prop} (ha1 : a1 ∈ mm_Sts) (hG : mm_G M.2.2) (h : vp_in ((((M.1 47 1) + 20) - 1) - (((M.1 47 1) + 20) - 1) / 20 * 20) 20 ∧ ∃ q18 : Nat, M.2.2 48 ((((M.1 47 1) + 20) - 1) - (((M.1 47 1) + 20) - 1) / 20 * 20).toNatClampNeg = some q18 ∧ q18 ∈ mm_Sts ∧ if (M.1 47 2) = 0 then (K 0 M) else (mm_CV mX9_copyFrom d [.ref a1, .ref q18] M (fun m35 => K 1 (mm_uI (mm_uI m35 47 1 ((((M.1 47 1) + 20) - 1) - (((M.1 47 1) + 20) - 1) / 20 * 20)) 47 2 (((mm_uI m35 47 1 ((((M.1 47 1) + 20) - 1) - (((M.1 47 1) + 20) - 1) / 20 * 20)).1 47 2) - 1))))) : mm_CI mX4_goBack (d + 1) [.ref 47, .ref a1] M K := by
  show mm_W mX4_goBack (d + 1) 0 0 0 [(0, .ref 47), (1, .ref a1)] [] mm_SH M 0 0 (mm_PI K)
  refine mm_aload_n (pc := 0) (j := 0) dX4_goBack_0 rfl rfl ?_
  refine mm_getI (pc := 1) (ci := 4) (N := 3) dX4_goBack_1 fX4_16 sh_47 rfl ?_
  refine mm_bipush (pc := 4) (x := 20) dX4_goBack_4 rfl ?_
  refine mm_iadd (pc := 6) dX4_goBack_6 ?_
  refine mm_iconst (pc := 7) (x := 1) dX4_goBack_7 rfl ?_
  refine mm_isub (pc := 8) dX4_goBack_8 ?_
  refine mm_bipush (pc := 9) (x := 20) dX4_goBack_9 rfl ?_
  refine mm_irem (pc := 11) dX4_goBack_11 (by decide) ?_
  refine mm_istore_n (pc := 12) (lv' := [(2, .int ((((M.1 47 1) + 20) - 1) - (((M.1 47 1) + 20) - 1) / 20 * 20)), (0, .ref 47), (1, .ref a1)]) dX4_goBack_12 rfl (by decide) rfl ?_
  refine mm_aload_n (pc := 13) (j := 1) dX4_goBack_13 rfl rfl ?_
  refine mm_getR (pc := 14) (ci := 4) (N := 3) (r := 48) dX4_goBack_14 fX4_11 sh_47 rfl (g_47_0 hG) ?_
  refine mm_iload_n (pc := 17) (j := 0) dX4_goBack_17 rfl rfl ?_
  obtain ⟨hi18, q18, he18, hq18, h⟩ := h
  refine mm_aaload (pc := 18) (N := 20) (r := q18) dX4_goBack_18 sh_48 hi18 he18 ?_
  refine mm_astore_n (pc := 19) (lv' := [(3, .ref q18), (2, .int ((((M.1 47 1) + 20) - 1) - (((M.1 47 1) + 20) - 1) / 20 * 20)), (0, .ref 47), (1, .ref a1)]) dX4_goBack_19 rfl (by decide) rfl ?_
  refine mm_aload_n (pc := 20) (j := 2) dX4_goBack_20 rfl rfl ?_
  refine mm_getI (pc := 21) (ci := 4) (N := 3) dX4_goBack_21 fX4_24 sh_47 rfl ?_
  refine mm_if_eq (pc := 24) (tgt := 31) dX4_goBack_24 (by decide) (fun hc => ?_) (fun hc => ?_)
  · have h := mm_ift hc h
    refine mm_iconst (pc := 31) (x := 0) dX4_goBack_31 rfl ?_
    exact mm_zret (pc := 32) dX4_goBack_32 rfl rfl (Nat.le_refl 0) (Nat.le_refl 0) ⟨_, rfl, rfl, hG, h⟩
  · have h := mm_iff hc h
    refine mm_aload_n (pc := 27) (j := 0) dX4_goBack_27 rfl rfl ?_
    refine mm_ifnonnull (pc := 28) (tgt := 33) dX4_goBack_28 (by decide) ?_
    refine mm_aload_n (pc := 33) (j := 3) dX4_goBack_33 rfl rfl ?_
    refine mm_aload_n (pc := 34) (j := 0) dX4_goBack_34 rfl rfl ?_
    refine mm_kVV (pc := 35) [.ref q18] dX4_goBack_35 kX4_20 rfl (sh_St ha1) (Nat.le_of_ble_eq_true rfl) (Nat.le_of_ble_eq_true rfl) h (fun m35 hG h => ?_)
    refine mm_aload_n (pc := 38) (j := 2) dX4_goBack_38 rfl rfl ?_
    refine mm_iload_n (pc := 39) (j := 1) dX4_goBack_39 rfl rfl ?_
    refine mm_putI (pc := 40) (ci := 4) (N := 3) dX4_goBack_40 fX4_16 sh_47 (by decide +kernel) rfl rfl rfl ?_
    refine mm_aload_n (pc := 43) (j := 2) dX4_goBack_43 rfl rfl ?_
    refine mm_dup (pc := 44) dX4_goBack_44 rfl ?_
    refine mm_getI (pc := 45) (ci := 4) (N := 3) dX4_goBack_45 fX4_24 sh_47 rfl ?_
    refine mm_iconst (pc := 48) (x := 1) dX4_goBack_48 rfl ?_
    refine mm_isub (pc := 49) dX4_goBack_49 ?_
    refine mm_putI (pc := 50) (ci := 4) (N := 3) dX4_goBack_50 fX4_24 sh_47 (by decide +kernel) rfl rfl rfl ?_
    refine mm_iconst (pc := 53) (x := 1) dX4_goBack_53 rfl ?_
    exact mm_zret (pc := 54) dX4_goBack_54 rfl rfl (Nat.le_refl 0) (Nat.le_refl 0) ⟨_, rfl, rfl, hG, h⟩
def jX10_seat_32 (d : Nat) (a1 : Nat) (a2 : Nat) (x3 : Int32) (M : mm_M) (K : mm_M → Prop) (y4 : Int32) : Prop := mm_W mX10_seat (d + 1) 0 0 32 [(0, .ref 149), (2, .ref a2), (4, .int y4)] [] mm_SH M 0 0 (mm_PV K)
def jX10_seat_40 (d : Nat) (a1 : Nat) (a2 : Nat) (x3 : Int32) (M : mm_M) (K : mm_M → Prop) (y4 : Int32) (y5 : Int32) : Prop := mm_W mX10_seat (d + 1) 0 0 40 [(0, .ref 149), (2, .ref a2), (4, .int y4), (5, .int y5)] [] mm_SH M 0 0 (mm_PV K)
set_option maxRecDepth 100000 in
set_option maxHeartbeats 4000000 in
theorem rX10_seat {d : Nat} {a1 : Nat} {a2 : Nat} {x3 : Int32} {M : mm_M} {K : mm_M → Prop} (ha1 : a1 ∈ mm_Rls) (ha2 : a2 ∈ mm_Sts) (hG : mm_G M.2.2) (h : if (M.1 149 5) = x3 then (K M) else (mm_CV mX10_weighMeals d [.ref 149, .ref a1, .ref a2] (mm_uI M 149 5 x3) (fun m17 => mm_CV mJ7_fill_53178 d [.ref 152, .int 0] m17 (fun m25 => jX10_seat_32 d a1 a2 x3 m25 K 6)))) : mm_CV mX10_seat (d + 1) [.ref 149, .ref a1, .ref a2, .int x3] M K := by
  show mm_W mX10_seat (d + 1) 0 0 0 [(0, .ref 149), (1, .ref a1), (2, .ref a2), (3, .int x3)] [] mm_SH M 0 0 (mm_PV K)
  refine mm_aload_n (pc := 0) (j := 0) dX10_seat_0 rfl rfl ?_
  refine mm_getI (pc := 1) (ci := 10) (N := 11) dX10_seat_1 fX10_18 sh_149 rfl ?_
  refine mm_iload_n (pc := 4) (j := 3) dX10_seat_4 rfl rfl ?_
  refine mm_icmp_ne (pc := 5) (tgt := 9) dX10_seat_5 (by decide) (fun hc => ?_) (fun hc => ?_)
  · have h := mm_iff hc h
    refine mm_aload_n (pc := 9) (j := 0) dX10_seat_9 rfl rfl ?_
    refine mm_iload_n (pc := 10) (j := 3) dX10_seat_10 rfl rfl ?_
    refine mm_putI (pc := 11) (ci := 10) (N := 11) dX10_seat_11 fX10_18 sh_149 (by decide +kernel) rfl rfl rfl ?_
    refine mm_aload_n (pc := 14) (j := 0) dX10_seat_14 rfl rfl ?_
    refine mm_aload_n (pc := 15) (j := 1) dX10_seat_15 rfl rfl ?_
    refine mm_aload_n (pc := 16) (j := 2) dX10_seat_16 rfl rfl ?_
    refine mm_kVV (pc := 17) [.ref a1, .ref a2] dX10_seat_17 kX10_37 rfl sh_149 (Nat.le_of_ble_eq_true rfl) (Nat.le_of_ble_eq_true rfl) h (fun m17 hG h => ?_)
    refine mm_aload_n (pc := 20) (j := 0) dX10_seat_20 rfl rfl ?_
    refine mm_getR (pc := 21) (ci := 10) (N := 11) (r := 152) dX10_seat_21 fX10_25 sh_149 rfl (g_149_7 hG) ?_
    refine mm_iconst (pc := 24) (x := 0) dX10_seat_24 rfl ?_
    refine mm_kSV (pc := 25) [.ref 152, .int 0] dX10_seat_25 kX10_41 rfl (Nat.le_of_ble_eq_true rfl) (Nat.le_of_ble_eq_true rfl) h (fun m25 hG h => ?_)
    refine mm_bipush (pc := 28) (x := 6) dX10_seat_28 rfl ?_
    refine mm_istore (pc := 30) (lv' := [(4, .int 6), (0, .ref 149), (1, .ref a1), (2, .ref a2), (3, .int x3)]) dX10_seat_30 (by decide) rfl ?_
    exact mm_sub [1, 3, 0] rfl h
  · have h := mm_ift hc h
    exact mm_vret (pc := 8) dX10_seat_8 rfl (Nat.le_refl 0) (Nat.le_refl 0) ⟨rfl, rfl, hG, h⟩
set_option maxRecDepth 100000 in
set_option maxHeartbeats 4000000 in
theorem lX10_seat_32 {d : Nat} {a1 : Nat} {a2 : Nat} {x3 : Int32} {M : mm_M} {K : mm_M → Prop} {y4 : Int32} (ha1 : a1 ∈ mm_Rls) (ha2 : a2 ∈ mm_Sts) (hG : mm_G M.2.2) (h : if y4 < 0 then (mm_CV mX10_readRow d [.ref 149, .ref a2] M (fun m84 => K m84)) else (jX10_seat_40 d a1 a2 x3 M K y4 0)) : jX10_seat_32 d a1 a2 x3 M K y4 := by
  unfold jX10_seat_32
  refine mm_iload (pc := 32) (j := 2) dX10_seat_32 rfl ?_
  refine mm_if_lt (pc := 34) (tgt := 82) dX10_seat_34 (by decide) (fun hc => ?_) (fun hc => ?_)
  · have h := mm_ift hc h
    refine mm_aload_n (pc := 82) (j := 0) dX10_seat_82 rfl rfl ?_
    refine mm_aload_n (pc := 83) (j := 1) dX10_seat_83 rfl rfl ?_
    refine mm_kVV (pc := 84) [.ref a2] dX10_seat_84 kX10_51 rfl sh_149 (Nat.le_of_ble_eq_true rfl) (Nat.le_of_ble_eq_true rfl) h (fun m84 hG h => ?_)
    exact mm_vret (pc := 87) dX10_seat_87 rfl (Nat.le_refl 0) (Nat.le_refl 0) ⟨rfl, rfl, hG, h⟩
  · have h := mm_iff hc h
    refine mm_iconst (pc := 37) (x := 0) dX10_seat_37 rfl ?_
    refine mm_istore (pc := 38) (lv' := [(5, .int 0), (0, .ref 149), (2, .ref a2), (4, .int y4)]) dX10_seat_38 (by decide) rfl ?_
    exact mm_sub [1, 2, 3, 0] rfl h
set_option maxRecDepth 100000 in
set_option maxHeartbeats 4000000 in
theorem lX10_seat_40 {d : Nat} {a1 : Nat} {a2 : Nat} {x3 : Int32} {M : mm_M} {K : mm_M → Prop} {y4 : Int32} {y5 : Int32} (ha1 : a1 ∈ mm_Rls) (ha2 : a2 ∈ mm_Sts) (hG : mm_G M.2.2) (h : if 128 ≤ y5 then (jX10_seat_32 d a1 a2 x3 M K (y4 + (-1))) else (mm_CI mX10_bestFrom d [.ref 149, .int y4, .int y5] M (fun z66 m66 => vp_in ((y4 * 128) + y5) 1024 ∧ jX10_seat_40 d a1 a2 x3 (mm_uI m66 152 ((y4 * 128) + y5).toNatClampNeg z66) K y4 (y5 + 1)))) : jX10_seat_40 d a1 a2 x3 M K y4 y5 := by
  unfold jX10_seat_40
  refine mm_iload (pc := 40) (j := 3) dX10_seat_40 rfl ?_
  refine mm_sipush (pc := 42) (x := 128) dX10_seat_42 rfl ?_
  refine mm_icmp_ge (pc := 45) (tgt := 76) dX10_seat_45 (by decide) (fun hc => ?_) (fun hc => ?_)
  · have h := mm_ift hc h
    refine mm_iinc (pc := 76) (j := 2) (v := y4 + (-1)) (lv' := [(4, .int (y4 + (-1))), (0, .ref 149), (2, .ref a2), (5, .int y5)]) dX10_seat_76 rfl rfl (by decide) rfl ?_
    refine mm_goto (pc := 79) (tgt := 32) dX10_seat_79 (by decide) ?_
    exact mm_sub [1, 2, 0] rfl h
  · have h := mm_iff hc h
    refine mm_aload_n (pc := 48) (j := 0) dX10_seat_48 rfl rfl ?_
    refine mm_getR (pc := 49) (ci := 10) (N := 11) (r := 152) dX10_seat_49 fX10_25 sh_149 rfl (g_149_7 hG) ?_
    refine mm_iload (pc := 52) (j := 2) dX10_seat_52 rfl ?_
    refine mm_sipush (pc := 54) (x := 128) dX10_seat_54 rfl ?_
    refine mm_imul (pc := 57) dX10_seat_57 ?_
    refine mm_iload (pc := 58) (j := 3) dX10_seat_58 rfl ?_
    refine mm_iadd (pc := 60) dX10_seat_60 ?_
    refine mm_aload_n (pc := 61) (j := 0) dX10_seat_61 rfl rfl ?_
    refine mm_iload (pc := 62) (j := 2) dX10_seat_62 rfl ?_
    refine mm_iload (pc := 64) (j := 3) dX10_seat_64 rfl ?_
    refine mm_kVI (pc := 66) [.int y4, .int y5] dX10_seat_66 kX10_47 rfl sh_149 (Nat.le_of_ble_eq_true rfl) (Nat.le_of_ble_eq_true rfl) h (fun z66 m66 hG h => ?_)
    obtain ⟨hi69, h⟩ := h
    refine mm_iastore (pc := 69) (N := 1024) dX10_seat_69 sh_152 hi69 ?_
    refine mm_iinc (pc := 70) (j := 3) (v := y5 + 1) (lv' := [(5, .int (y5 + 1)), (0, .ref 149), (2, .ref a2), (4, .int y4)]) dX10_seat_70 rfl rfl (by decide) rfl ?_
    refine mm_goto (pc := 73) (tgt := 40) dX10_seat_73 (by decide) ?_
    exact mm_sub [1, 2, 3, 0] rfl h
def jX10_weighMeals_2 (d : Nat) (a1 : Nat) (a2 : Nat) (M : mm_M) (K : mm_M → Prop) (y3 : Int32) : Prop := mm_W mX10_weighMeals d 0 0 2 [(0, .ref 149), (1, .ref a1), (2, .ref a2), (3, .int y3)] [] mm_SH M 0 0 (mm_PV K)
def jX10_weighMeals_11 (d : Nat) (a1 : Nat) (a2 : Nat) (M : mm_M) (K : mm_M → Prop) (y3 : Int32) (y4 : Int32) : Prop := mm_W mX10_weighMeals d 0 0 11 [(0, .ref 149), (1, .ref a1), (2, .ref a2), (3, .int y3), (4, .int y4)] [] mm_SH M 0 0 (mm_PV K)
def jX10_weighMeals_56 (d : Nat) (a1 : Nat) (a2 : Nat) (M : mm_M) (K : mm_M → Prop) (y3 : Int32) (y4 : Int32) (y5 : Int32) (u0 : Int32) : Prop := mm_W mX10_weighMeals d 0 0 56 [(0, .ref 149), (1, .ref a1), (2, .ref a2), (3, .int y3), (4, .int y4), (5, .int y5)] [.int u0] mm_SH M 0 0 (mm_PV K)
set_option maxRecDepth 100000 in
set_option maxHeartbeats 4000000 in
theorem rX10_weighMeals {d : Nat} {a1 : Nat} {a2 : Nat} {M : mm_M} {K : mm_M → Prop} (ha1 : a1 ∈ mm_Rls) (ha2 : a2 ∈ mm_Sts) (hG : mm_G M.2.2) (h : jX10_weighMeals_2 d a1 a2 M K 0) : mm_CV mX10_weighMeals d [.ref 149, .ref a1, .ref a2] M K := by
  show mm_W mX10_weighMeals d 0 0 0 [(0, .ref 149), (1, .ref a1), (2, .ref a2)] [] mm_SH M 0 0 (mm_PV K)
  refine mm_iconst (pc := 0) (x := 0) dX10_weighMeals_0 rfl ?_
  refine mm_istore_n (pc := 1) (lv' := [(3, .int 0), (0, .ref 149), (1, .ref a1), (2, .ref a2)]) dX10_weighMeals_1 rfl (by decide) rfl ?_
  exact mm_sub [1, 2, 3, 0] rfl h
set_option maxRecDepth 100000 in
set_option maxHeartbeats 4000000 in
theorem lX10_weighMeals_2 {d : Nat} {a1 : Nat} {a2 : Nat} {M : mm_M} {K : mm_M → Prop} {y3 : Int32} (ha1 : a1 ∈ mm_Rls) (ha2 : a2 ∈ mm_Sts) (hG : mm_G M.2.2) (h : if 7 ≤ y3 then (K M) else (jX10_weighMeals_11 d a1 a2 M K y3 0)) : jX10_weighMeals_2 d a1 a2 M K y3 := by
  unfold jX10_weighMeals_2
  refine mm_iload_n (pc := 2) (j := 3) dX10_weighMeals_2 rfl rfl ?_
  refine mm_bipush (pc := 3) (x := 7) dX10_weighMeals_3 rfl ?_
  refine mm_icmp_ge (pc := 5) (tgt := 97) dX10_weighMeals_5 (by decide) (fun hc => ?_) (fun hc => ?_)
  · have h := mm_ift hc h
    exact mm_vret (pc := 97) dX10_weighMeals_97 rfl (Nat.le_refl 0) (Nat.le_refl 0) ⟨rfl, rfl, hG, h⟩
  · have h := mm_iff hc h
    refine mm_iconst (pc := 8) (x := 0) dX10_weighMeals_8 rfl ?_
    refine mm_istore (pc := 9) (lv' := [(4, .int 0), (0, .ref 149), (1, .ref a1), (2, .ref a2), (3, .int y3)]) dX10_weighMeals_9 (by decide) rfl ?_
    exact mm_sub [1, 2, 3, 4, 0] rfl h
set_option maxRecDepth 100000 in
set_option maxHeartbeats 4000000 in
theorem lX10_weighMeals_11 {d : Nat} {a1 : Nat} {a2 : Nat} {M : mm_M} {K : mm_M → Prop} {y3 : Int32} {y4 : Int32} (ha1 : a1 ∈ mm_Rls) (ha2 : a2 ∈ mm_Sts) (hG : mm_G M.2.2) (h : if 7 ≤ y4 then (jX10_weighMeals_2 d a1 a2 M K (y3 + 1)) else (vp_in ((8 * y3) + y4) 64 ∧ if (M.1 (a2 + 3) ((8 * y3) + y4).toNatClampNeg) ≤ 0 then (jX10_weighMeals_56 d a1 a2 M K y3 y4 (M.1 (a2 + 3) ((8 * y3) + y4).toNatClampNeg) 0) else (vp_in y4 7 ∧ if (M.1 (a2 + 1) y4.toNatClampNeg) < (M.1 a1 1) then (jX10_weighMeals_56 d a1 a2 M K y3 y4 (M.1 (a2 + 3) ((8 * y3) + y4).toNatClampNeg) 0) else (jX10_weighMeals_56 d a1 a2 M K y3 y4 (M.1 (a2 + 3) ((8 * y3) + y4).toNatClampNeg) 1)))) : jX10_weighMeals_11 d a1 a2 M K y3 y4 := by
  unfold jX10_weighMeals_11
  refine mm_iload (pc := 11) (j := 4) dX10_weighMeals_11 rfl ?_
  refine mm_bipush (pc := 13) (x := 7) dX10_weighMeals_13 rfl ?_
  refine mm_icmp_ge (pc := 15) (tgt := 91) dX10_weighMeals_15 (by decide) (fun hc => ?_) (fun hc => ?_)
  · have h := mm_ift hc h
    refine mm_iinc (pc := 91) (j := 3) (v := y3 + 1) (lv' := [(3, .int (y3 + 1)), (0, .ref 149), (1, .ref a1), (2, .ref a2), (4, .int y4)]) dX10_weighMeals_91 rfl rfl (by decide) rfl ?_
    refine mm_goto (pc := 94) (tgt := 2) dX10_weighMeals_94 (by decide) ?_
    exact mm_sub [1, 2, 3, 0] rfl h
  · have h := mm_iff hc h
    refine mm_aload_n (pc := 18) (j := 2) dX10_weighMeals_18 rfl rfl ?_
    refine mm_getR (pc := 19) (ci := 9) (N := 7) (r := a2 + 3) dX10_weighMeals_19 fX10_55 (sh_St ha2) rfl (g_St_5 hG ha2) ?_
    refine mm_bipush (pc := 22) (x := 8) dX10_weighMeals_22 rfl ?_
    refine mm_iload_n (pc := 24) (j := 3) dX10_weighMeals_24 rfl rfl ?_
    refine mm_imul (pc := 25) dX10_weighMeals_25 ?_
    refine mm_iload (pc := 26) (j := 4) dX10_weighMeals_26 rfl ?_
    refine mm_iadd (pc := 28) dX10_weighMeals_28 ?_
    obtain ⟨hi29, h⟩ := h
    refine mm_iaload (pc := 29) (N := 64) dX10_weighMeals_29 (sh_St_3 ha2) hi29 ?_
    refine mm_istore (pc := 30) (lv' := [(5, .int (M.1 (a2 + 3) ((8 * y3) + y4).toNatClampNeg)), (0, .ref 149), (1, .ref a1), (2, .ref a2), (3, .int y3), (4, .int y4)]) dX10_weighMeals_30 (by decide) rfl ?_
    refine mm_iload (pc := 32) (j := 0) dX10_weighMeals_32 rfl ?_
    refine mm_if_le (pc := 34) (tgt := 55) dX10_weighMeals_34 (by decide) (fun hc => ?_) (fun hc => ?_)
    · have h := mm_ift hc h
      refine mm_iconst (pc := 55) (x := 0) dX10_weighMeals_55 rfl ?_
      exact mm_sub [1, 2, 3, 4, 5, 0] rfl h
    · have h := mm_iff hc h
      refine mm_aload_n (pc := 37) (j := 3) dX10_weighMeals_37 rfl rfl ?_
      refine mm_getR (pc := 38) (ci := 9) (N := 7) (r := a2 + 1) dX10_weighMeals_38 fX10_60 (sh_St ha2) rfl (g_St_3 hG ha2) ?_
      refine mm_iload (pc := 41) (j := 5) dX10_weighMeals_41 rfl ?_
      obtain ⟨hi43, h⟩ := h
      refine mm_iaload (pc := 43) (N := 7) dX10_weighMeals_43 (sh_St_1 ha2) hi43 ?_
      refine mm_aload_n (pc := 44) (j := 2) dX10_weighMeals_44 rfl rfl ?_
      refine mm_getI (pc := 45) (ci := 7) (N := 11) dX10_weighMeals_45 fX10_63 (sh_Rl ha1) rfl ?_
      refine mm_icmp_lt (pc := 48) (tgt := 55) dX10_weighMeals_48 (by decide) (fun hc => ?_) (fun hc => ?_)
      · have h := mm_ift hc h
        refine mm_iconst (pc := 55) (x := 0) dX10_weighMeals_55 rfl ?_
        exact mm_sub [1, 2, 3, 4, 5, 0] rfl h
      · have h := mm_iff hc h
        refine mm_iconst (pc := 51) (x := 1) dX10_weighMeals_51 rfl ?_
        refine mm_goto (pc := 52) (tgt := 56) dX10_weighMeals_52 (by decide) ?_
        exact mm_sub [1, 2, 3, 4, 5, 0] rfl h
set_option maxRecDepth 100000 in
set_option maxHeartbeats 4000000 in
theorem lX10_weighMeals_56 {d : Nat} {a1 : Nat} {a2 : Nat} {M : mm_M} {K : mm_M → Prop} {y3 : Int32} {y4 : Int32} {y5 : Int32} {u0 : Int32} (ha1 : a1 ∈ mm_Rls) (ha2 : a2 ∈ mm_Sts) (hG : mm_G M.2.2) (h : if u0 = 0 then (vp_in ((8 * y3) + y4) 64 ∧ jX10_weighMeals_11 d a1 a2 (mm_uI M 153 ((8 * y3) + y4).toNatClampNeg 0) K y3 (y4 + 1)) else (vp_in ((8 * y3) + y4) 64 ∧ jX10_weighMeals_11 d a1 a2 (mm_uI M 153 ((8 * y3) + y4).toNatClampNeg (1000 - y5)) K y3 (y4 + 1))) : jX10_weighMeals_56 d a1 a2 M K y3 y4 y5 u0 := by
  unfold jX10_weighMeals_56
  refine mm_istore (pc := 56) (lv' := [(6, .int u0), (0, .ref 149), (1, .ref a1), (2, .ref a2), (3, .int y3), (4, .int y4), (5, .int y5)]) dX10_weighMeals_56 (by decide) rfl ?_
  refine mm_aload_n (pc := 58) (j := 1) dX10_weighMeals_58 rfl rfl ?_
  refine mm_getR (pc := 59) (ci := 10) (N := 11) (r := 153) dX10_weighMeals_59 fX10_28 sh_149 rfl (g_149_8 hG) ?_
  refine mm_bipush (pc := 62) (x := 8) dX10_weighMeals_62 rfl ?_
  refine mm_iload_n (pc := 64) (j := 4) dX10_weighMeals_64 rfl rfl ?_
  refine mm_imul (pc := 65) dX10_weighMeals_65 ?_
  refine mm_iload (pc := 66) (j := 5) dX10_weighMeals_66 rfl ?_
  refine mm_iadd (pc := 68) dX10_weighMeals_68 ?_
  refine mm_iload (pc := 69) (j := 0) dX10_weighMeals_69 rfl ?_
  refine mm_if_eq (pc := 71) (tgt := 83) dX10_weighMeals_71 (by decide) (fun hc => ?_) (fun hc => ?_)
  · have h := mm_ift hc h
    refine mm_iconst (pc := 83) (x := 0) dX10_weighMeals_83 rfl ?_
    obtain ⟨hi84, h⟩ := h
    refine mm_iastore (pc := 84) (N := 64) dX10_weighMeals_84 sh_153 hi84 ?_
    refine mm_iinc (pc := 85) (j := 5) (v := y4 + 1) (lv' := [(4, .int (y4 + 1)), (6, .int u0), (0, .ref 149), (1, .ref a1), (2, .ref a2), (3, .int y3), (5, .int y5)]) dX10_weighMeals_85 rfl rfl (by decide) rfl ?_
    refine mm_goto (pc := 88) (tgt := 11) dX10_weighMeals_88 (by decide) ?_
    exact mm_sub [2, 3, 4, 5, 0] rfl h
  · have h := mm_iff hc h
    refine mm_sipush (pc := 74) (x := 1000) dX10_weighMeals_74 rfl ?_
    refine mm_iload (pc := 77) (j := 6) dX10_weighMeals_77 rfl ?_
    refine mm_isub (pc := 79) dX10_weighMeals_79 ?_
    refine mm_goto (pc := 80) (tgt := 84) dX10_weighMeals_80 (by decide) ?_
    obtain ⟨hi84, h⟩ := h
    refine mm_iastore (pc := 84) (N := 64) dX10_weighMeals_84 sh_153 hi84 ?_
    refine mm_iinc (pc := 85) (j := 5) (v := y4 + 1) (lv' := [(4, .int (y4 + 1)), (6, .int u0), (0, .ref 149), (1, .ref a1), (2, .ref a2), (3, .int y3), (5, .int y5)]) dX10_weighMeals_85 rfl rfl (by decide) rfl ?_
    refine mm_goto (pc := 88) (tgt := 11) dX10_weighMeals_88 (by decide) ?_
    exact mm_sub [2, 3, 4, 5, 0] rfl h
def jX10_bestFrom_21 (d : Nat) (x1 : Int32) (x2 : Int32) (M : mm_M) (K : Int32 → mm_M → Prop) (y1 : Int32) (y2 : Int32) (y3 : Int32) (y4 : Int32) (y5 : Int32) : Prop := mm_W mX10_bestFrom (d + 1) 0 0 21 [(0, .ref 149), (1, .int y1), (2, .int y2), (3, .int y3), (4, .int y4), (5, .int y5)] [] mm_SH M 0 0 (mm_PI K)
set_option maxRecDepth 100000 in
set_option maxHeartbeats 4000000 in
theorem rX10_bestFrom {d : Nat} {x1 : Int32} {x2 : Int32} {M : mm_M} {K : Int32 → mm_M → Prop} (hG : mm_G M.2.2) (h : vp_in (((x1 + 1) * 128) + x2) 1024 ∧ jX10_bestFrom_21 d x1 x2 M K x1 x2 ((x1 + 1) * 128) (M.1 152 (((x1 + 1) * 128) + x2).toNatClampNeg) 0) : mm_CI mX10_bestFrom (d + 1) [.ref 149, .int x1, .int x2] M K := by
  show mm_W mX10_bestFrom (d + 1) 0 0 0 [(0, .ref 149), (1, .int x1), (2, .int x2)] [] mm_SH M 0 0 (mm_PI K)
  refine mm_iload_n (pc := 0) (j := 1) dX10_bestFrom_0 rfl rfl ?_
  refine mm_iconst (pc := 1) (x := 1) dX10_bestFrom_1 rfl ?_
  refine mm_iadd (pc := 2) dX10_bestFrom_2 ?_
  refine mm_sipush (pc := 3) (x := 128) dX10_bestFrom_3 rfl ?_
  refine mm_imul (pc := 6) dX10_bestFrom_6 ?_
  refine mm_istore_n (pc := 7) (lv' := [(3, .int ((x1 + 1) * 128)), (0, .ref 149), (1, .int x1), (2, .int x2)]) dX10_bestFrom_7 rfl (by decide) rfl ?_
  refine mm_aload_n (pc := 8) (j := 1) dX10_bestFrom_8 rfl rfl ?_
  refine mm_getR (pc := 9) (ci := 10) (N := 11) (r := 152) dX10_bestFrom_9 fX10_25 sh_149 rfl (g_149_7 hG) ?_
  refine mm_iload_n (pc := 12) (j := 0) dX10_bestFrom_12 rfl rfl ?_
  refine mm_iload_n (pc := 13) (j := 3) dX10_bestFrom_13 rfl rfl ?_
  refine mm_iadd (pc := 14) dX10_bestFrom_14 ?_
  obtain ⟨hi15, h⟩ := h
  refine mm_iaload (pc := 15) (N := 1024) dX10_bestFrom_15 sh_152 hi15 ?_
  refine mm_istore (pc := 16) (lv' := [(4, .int (M.1 152 (((x1 + 1) * 128) + x2).toNatClampNeg)), (3, .int ((x1 + 1) * 128)), (0, .ref 149), (1, .int x1), (2, .int x2)]) dX10_bestFrom_16 (by decide) rfl ?_
  refine mm_iconst (pc := 18) (x := 0) dX10_bestFrom_18 rfl ?_
  refine mm_istore (pc := 19) (lv' := [(5, .int 0), (4, .int (M.1 152 (((x1 + 1) * 128) + x2).toNatClampNeg)), (3, .int ((x1 + 1) * 128)), (0, .ref 149), (1, .int x1), (2, .int x2)]) dX10_bestFrom_19 (by decide) rfl ?_
  exact mm_sub [3, 4, 5, 2, 1, 0] rfl h
set_option maxRecDepth 100000 in
set_option maxHeartbeats 4000000 in
theorem lX10_bestFrom_21 {d : Nat} {x1 : Int32} {x2 : Int32} {M : mm_M} {K : Int32 → mm_M → Prop} {y1 : Int32} {y2 : Int32} {y3 : Int32} {y4 : Int32} {y5 : Int32} (hG : mm_G M.2.2) (h : if 7 ≤ y5 then (K y4 M) else (vp_in ((8 * y1) + y5) 64 ∧ if (M.1 153 ((8 * y1) + y5).toNatClampNeg) ≤ 0 then (jX10_bestFrom_21 d x1 x2 M K y1 y2 y3 y4 (y5 + 1)) else (if ((y2 >>> (y5 &&& 31)) &&& 1) = 0 then (vp_in (y3 + (y2 ||| ((1 : Int32) <<< (y5 &&& 31)))) 1024 ∧ jX10_bestFrom_21 d x1 x2 M K y1 y2 y3 (if y4 < ((M.1 153 ((8 * y1) + y5).toNatClampNeg) + (M.1 152 (y3 + (y2 ||| ((1 : Int32) <<< (y5 &&& 31)))).toNatClampNeg)) then ((M.1 153 ((8 * y1) + y5).toNatClampNeg) + (M.1 152 (y3 + (y2 ||| ((1 : Int32) <<< (y5 &&& 31)))).toNatClampNeg)) else y4) (y5 + 1)) else (jX10_bestFrom_21 d x1 x2 M K y1 y2 y3 y4 (y5 + 1))))) : jX10_bestFrom_21 d x1 x2 M K y1 y2 y3 y4 y5 := by
  unfold jX10_bestFrom_21
  refine mm_iload (pc := 21) (j := 5) dX10_bestFrom_21 rfl ?_
  refine mm_bipush (pc := 23) (x := 7) dX10_bestFrom_23 rfl ?_
  refine mm_icmp_ge (pc := 25) (tgt := 85) dX10_bestFrom_25 (by decide) (fun hc => ?_) (fun hc => ?_)
  · have h := mm_ift hc h
    refine mm_iload (pc := 85) (j := 4) dX10_bestFrom_85 rfl ?_
    exact mm_iret (pc := 87) dX10_bestFrom_87 rfl (Nat.le_refl 0) (Nat.le_refl 0) ⟨_, rfl, rfl, hG, h⟩
  · have h := mm_iff hc h
    refine mm_aload_n (pc := 28) (j := 0) dX10_bestFrom_28 rfl rfl ?_
    refine mm_getR (pc := 29) (ci := 10) (N := 11) (r := 153) dX10_bestFrom_29 fX10_28 sh_149 rfl (g_149_8 hG) ?_
    refine mm_bipush (pc := 32) (x := 8) dX10_bestFrom_32 rfl ?_
    refine mm_iload_n (pc := 34) (j := 1) dX10_bestFrom_34 rfl rfl ?_
    refine mm_imul (pc := 35) dX10_bestFrom_35 ?_
    refine mm_iload (pc := 36) (j := 5) dX10_bestFrom_36 rfl ?_
    refine mm_iadd (pc := 38) dX10_bestFrom_38 ?_
    obtain ⟨hi39, h⟩ := h
    refine mm_iaload (pc := 39) (N := 64) dX10_bestFrom_39 sh_153 hi39 ?_
    refine mm_istore (pc := 40) (lv' := [(6, .int (M.1 153 ((8 * y1) + y5).toNatClampNeg)), (0, .ref 149), (1, .int y1), (2, .int y2), (3, .int y3), (4, .int y4), (5, .int y5)]) dX10_bestFrom_40 (by decide) rfl ?_
    refine mm_iload (pc := 42) (j := 0) dX10_bestFrom_42 rfl ?_
    refine mm_if_le (pc := 44) (tgt := 79) dX10_bestFrom_44 (by decide) (fun hc => ?_) (fun hc => ?_)
    · have h := mm_ift hc h
      refine mm_iinc (pc := 79) (j := 6) (v := y5 + 1) (lv' := [(5, .int (y5 + 1)), (6, .int (M.1 153 ((8 * y1) + y5).toNatClampNeg)), (0, .ref 149), (1, .int y1), (2, .int y2), (3, .int y3), (4, .int y4)]) dX10_bestFrom_79 rfl rfl (by decide) rfl ?_
      refine mm_goto (pc := 82) (tgt := 21) dX10_bestFrom_82 (by decide) ?_
      exact mm_sub [2, 3, 4, 5, 6, 0] rfl h
    · have h := mm_iff hc h
      refine mm_iload_n (pc := 47) (j := 3) dX10_bestFrom_47 rfl rfl ?_
      refine mm_iload (pc := 48) (j := 6) dX10_bestFrom_48 rfl ?_
      refine mm_ishr (pc := 50) dX10_bestFrom_50 ?_
      refine mm_iconst (pc := 51) (x := 1) dX10_bestFrom_51 rfl ?_
      refine mm_iand (pc := 52) dX10_bestFrom_52 ?_
      refine mm_if_ne (pc := 53) (tgt := 79) dX10_bestFrom_53 (by decide) (fun hc => ?_) (fun hc => ?_)
      · have h := mm_iff hc h
        refine mm_iinc (pc := 79) (j := 6) (v := y5 + 1) (lv' := [(5, .int (y5 + 1)), (6, .int (M.1 153 ((8 * y1) + y5).toNatClampNeg)), (0, .ref 149), (1, .int y1), (2, .int y2), (3, .int y3), (4, .int y4)]) dX10_bestFrom_79 rfl rfl (by decide) rfl ?_
        refine mm_goto (pc := 82) (tgt := 21) dX10_bestFrom_82 (by decide) ?_
        exact mm_sub [2, 3, 4, 5, 6, 0] rfl h
      · have h := mm_ift hc h
        refine mm_iload (pc := 56) (j := 5) dX10_bestFrom_56 rfl ?_
        refine mm_iload (pc := 58) (j := 0) dX10_bestFrom_58 rfl ?_
        refine mm_aload_n (pc := 60) (j := 1) dX10_bestFrom_60 rfl rfl ?_
        refine mm_getR (pc := 61) (ci := 10) (N := 11) (r := 152) dX10_bestFrom_61 fX10_25 sh_149 rfl (g_149_7 hG) ?_
        refine mm_iload_n (pc := 64) (j := 4) dX10_bestFrom_64 rfl rfl ?_
        refine mm_iload_n (pc := 65) (j := 3) dX10_bestFrom_65 rfl rfl ?_
        refine mm_iconst (pc := 66) (x := 1) dX10_bestFrom_66 rfl ?_
        refine mm_iload (pc := 67) (j := 6) dX10_bestFrom_67 rfl ?_
        refine mm_ishl (pc := 69) dX10_bestFrom_69 ?_
        refine mm_ior (pc := 70) dX10_bestFrom_70 ?_
        refine mm_iadd (pc := 71) dX10_bestFrom_71 ?_
        obtain ⟨hi72, h⟩ := h
        refine mm_iaload (pc := 72) (N := 1024) dX10_bestFrom_72 sh_152 hi72 ?_
        refine mm_iadd (pc := 73) dX10_bestFrom_73 ?_
        refine mm_mmax (pc := 74) dX10_bestFrom_74 kX10_68 ma_max_s ma_ini ma_max_c (Nat.le_of_ble_eq_true rfl) (Nat.le_refl 0) (Nat.le_refl 0) ?_
        refine mm_istore (pc := 77) (lv' := [(4, .int (if y4 < ((M.1 153 ((8 * y1) + y5).toNatClampNeg) + (M.1 152 (y3 + (y2 ||| ((1 : Int32) <<< (y5 &&& 31)))).toNatClampNeg)) then ((M.1 153 ((8 * y1) + y5).toNatClampNeg) + (M.1 152 (y3 + (y2 ||| ((1 : Int32) <<< (y5 &&& 31)))).toNatClampNeg)) else y4)), (6, .int (M.1 153 ((8 * y1) + y5).toNatClampNeg)), (0, .ref 149), (1, .int y1), (2, .int y2), (3, .int y3), (5, .int y5)]) dX10_bestFrom_77 (by decide) rfl ?_
        refine mm_iinc (pc := 79) (j := 6) (v := y5 + 1) (lv' := [(5, .int (y5 + 1)), (4, .int (if y4 < ((M.1 153 ((8 * y1) + y5).toNatClampNeg) + (M.1 152 (y3 + (y2 ||| ((1 : Int32) <<< (y5 &&& 31)))).toNatClampNeg)) then ((M.1 153 ((8 * y1) + y5).toNatClampNeg) + (M.1 152 (y3 + (y2 ||| ((1 : Int32) <<< (y5 &&& 31)))).toNatClampNeg)) else y4)), (6, .int (M.1 153 ((8 * y1) + y5).toNatClampNeg)), (0, .ref 149), (1, .int y1), (2, .int y2), (3, .int y3)]) dX10_bestFrom_79 rfl rfl (by decide) rfl ?_
        refine mm_goto (pc := 82) (tgt := 21) dX10_bestFrom_82 (by decide) ?_
        exact mm_sub [3, 4, 5, 6, 1, 0] rfl h
def jX10_readRow_14 (d : Nat) (a1 : Nat) (M : mm_M) (K : mm_M → Prop) (y2 : Int32) (y3 : Int32) : Prop := mm_W mX10_readRow (d + 1) 0 0 14 [(0, .ref 149), (1, .ref a1), (2, .int y2), (3, .int y3)] [] mm_SH M 0 0 (mm_PV K)
set_option maxRecDepth 100000 in
set_option maxHeartbeats 4000000 in
theorem rX10_readRow {d : Nat} {a1 : Nat} {M : mm_M} {K : mm_M → Prop} (ha1 : a1 ∈ mm_Sts) (hG : mm_G M.2.2) (h : jX10_readRow_14 d a1 (mm_uI (mm_uI M 149 0 0) 149 1 0) K 0 0) : mm_CV mX10_readRow (d + 1) [.ref 149, .ref a1] M K := by
  show mm_W mX10_readRow (d + 1) 0 0 0 [(0, .ref 149), (1, .ref a1)] [] mm_SH M 0 0 (mm_PV K)
  refine mm_aload_n (pc := 0) (j := 0) dX10_readRow_0 rfl rfl ?_
  refine mm_iconst (pc := 1) (x := 0) dX10_readRow_1 rfl ?_
  refine mm_putI (pc := 2) (ci := 10) (N := 11) dX10_readRow_2 fX10_73 sh_149 (by decide +kernel) rfl rfl rfl ?_
  refine mm_aload_n (pc := 5) (j := 0) dX10_readRow_5 rfl rfl ?_
  refine mm_iconst (pc := 6) (x := 0) dX10_readRow_6 rfl ?_
  refine mm_putI (pc := 7) (ci := 10) (N := 11) dX10_readRow_7 fX10_76 sh_149 (by decide +kernel) rfl rfl rfl ?_
  refine mm_iconst (pc := 10) (x := 0) dX10_readRow_10 rfl ?_
  refine mm_istore_n (pc := 11) (lv' := [(2, .int 0), (0, .ref 149), (1, .ref a1)]) dX10_readRow_11 rfl (by decide) rfl ?_
  refine mm_iconst (pc := 12) (x := 0) dX10_readRow_12 rfl ?_
  refine mm_istore_n (pc := 13) (lv' := [(3, .int 0), (2, .int 0), (0, .ref 149), (1, .ref a1)]) dX10_readRow_13 rfl (by decide) rfl ?_
  exact mm_sub [2, 3, 1, 0] rfl h
set_option maxRecDepth 100000 in
set_option maxHeartbeats 4000000 in
theorem lX10_readRow_14 {d : Nat} {a1 : Nat} {M : mm_M} {K : mm_M → Prop} {y2 : Int32} {y3 : Int32} (ha1 : a1 ∈ mm_Sts) (hG : mm_G M.2.2) (h : if 7 ≤ y3 then (K M) else (mm_CI mX10_firstBaker d [.ref 149, .int y3, .int y2] M (fun z23 m23 => vp_in y3 7 ∧ if z23 < 0 then (jX10_readRow_14 d a1 (mm_uI m23 150 y3.toNatClampNeg z23) K y2 (y3 + 1)) else (vp_in ((8 * y3) + z23) 64 ∧ jX10_readRow_14 d a1 (mm_uI (mm_uI (mm_uI m23 150 y3.toNatClampNeg z23) 149 0 (((mm_uI m23 150 y3.toNatClampNeg z23).1 149 0) + 1)) 149 1 (((mm_uI (mm_uI m23 150 y3.toNatClampNeg z23) 149 0 (((mm_uI m23 150 y3.toNatClampNeg z23).1 149 0) + 1)).1 149 1) + ((mm_uI (mm_uI m23 150 y3.toNatClampNeg z23) 149 0 (((mm_uI m23 150 y3.toNatClampNeg z23).1 149 0) + 1)).1 (a1 + 3) ((8 * y3) + z23).toNatClampNeg))) K (y2 ||| ((1 : Int32) <<< (z23 &&& 31))) (y3 + 1))))) : jX10_readRow_14 d a1 M K y2 y3 := by
  unfold jX10_readRow_14
  refine mm_iload_n (pc := 14) (j := 3) dX10_readRow_14 rfl rfl ?_
  refine mm_bipush (pc := 15) (x := 7) dX10_readRow_15 rfl ?_
  refine mm_icmp_ge (pc := 17) (tgt := 85) dX10_readRow_17 (by decide) (fun hc => ?_) (fun hc => ?_)
  · have h := mm_ift hc h
    exact mm_vret (pc := 85) dX10_readRow_85 rfl (Nat.le_refl 0) (Nat.le_refl 0) ⟨rfl, rfl, hG, h⟩
  · have h := mm_iff hc h
    refine mm_aload_n (pc := 20) (j := 0) dX10_readRow_20 rfl rfl ?_
    refine mm_iload_n (pc := 21) (j := 3) dX10_readRow_21 rfl rfl ?_
    refine mm_iload_n (pc := 22) (j := 2) dX10_readRow_22 rfl rfl ?_
    refine mm_kVI (pc := 23) [.int y3, .int y2] dX10_readRow_23 kX10_79 rfl sh_149 (Nat.le_of_ble_eq_true rfl) (Nat.le_of_ble_eq_true rfl) h (fun z23 m23 hG h => ?_)
    refine mm_istore (pc := 26) (lv' := [(4, .int z23), (0, .ref 149), (1, .ref a1), (2, .int y2), (3, .int y3)]) dX10_readRow_26 (by decide) rfl ?_
    refine mm_aload_n (pc := 28) (j := 1) dX10_readRow_28 rfl rfl ?_
    refine mm_getR (pc := 29) (ci := 10) (N := 11) (r := 150) dX10_readRow_29 fX10_9 sh_149 rfl (g_149_2 hG) ?_
    refine mm_iload_n (pc := 32) (j := 4) dX10_readRow_32 rfl rfl ?_
    refine mm_iload (pc := 33) (j := 0) dX10_readRow_33 rfl ?_
    obtain ⟨hi35, h⟩ := h
    refine mm_iastore (pc := 35) (N := 7) dX10_readRow_35 sh_150 hi35 ?_
    refine mm_iload (pc := 36) (j := 0) dX10_readRow_36 rfl ?_
    refine mm_if_lt (pc := 38) (tgt := 79) dX10_readRow_38 (by decide) (fun hc => ?_) (fun hc => ?_)
    · have h := mm_ift hc h
      refine mm_iinc (pc := 79) (j := 4) (v := y3 + 1) (lv' := [(3, .int (y3 + 1)), (4, .int z23), (0, .ref 149), (1, .ref a1), (2, .int y2)]) dX10_readRow_79 rfl rfl (by decide) rfl ?_
      refine mm_goto (pc := 82) (tgt := 14) dX10_readRow_82 (by decide) ?_
      exact mm_sub [2, 3, 4, 0] rfl h
    · have h := mm_iff hc h
      refine mm_aload_n (pc := 41) (j := 1) dX10_readRow_41 rfl rfl ?_
      refine mm_dup (pc := 42) dX10_readRow_42 rfl ?_
      refine mm_getI (pc := 43) (ci := 10) (N := 11) dX10_readRow_43 fX10_73 sh_149 rfl ?_
      refine mm_iconst (pc := 46) (x := 1) dX10_readRow_46 rfl ?_
      refine mm_iadd (pc := 47) dX10_readRow_47 ?_
      refine mm_putI (pc := 48) (ci := 10) (N := 11) dX10_readRow_48 fX10_73 sh_149 (by decide +kernel) rfl rfl rfl ?_
      refine mm_aload_n (pc := 51) (j := 1) dX10_readRow_51 rfl rfl ?_
      refine mm_dup (pc := 52) dX10_readRow_52 rfl ?_
      refine mm_getI (pc := 53) (ci := 10) (N := 11) dX10_readRow_53 fX10_76 sh_149 rfl ?_
      refine mm_aload_n (pc := 56) (j := 2) dX10_readRow_56 rfl rfl ?_
      refine mm_getR (pc := 57) (ci := 9) (N := 7) (r := a1 + 3) dX10_readRow_57 fX10_55 (sh_St ha1) rfl (g_St_5 hG ha1) ?_
      refine mm_bipush (pc := 60) (x := 8) dX10_readRow_60 rfl ?_
      refine mm_iload_n (pc := 62) (j := 4) dX10_readRow_62 rfl rfl ?_
      refine mm_imul (pc := 63) dX10_readRow_63 ?_
      refine mm_iload (pc := 64) (j := 0) dX10_readRow_64 rfl ?_
      refine mm_iadd (pc := 66) dX10_readRow_66 ?_
      obtain ⟨hi67, h⟩ := h
      refine mm_iaload (pc := 67) (N := 64) dX10_readRow_67 (sh_St_3 ha1) hi67 ?_
      refine mm_iadd (pc := 68) dX10_readRow_68 ?_
      refine mm_putI (pc := 69) (ci := 10) (N := 11) dX10_readRow_69 fX10_76 sh_149 (by decide +kernel) rfl rfl rfl ?_
      refine mm_iload_n (pc := 72) (j := 3) dX10_readRow_72 rfl rfl ?_
      refine mm_iconst (pc := 73) (x := 1) dX10_readRow_73 rfl ?_
      refine mm_iload (pc := 74) (j := 0) dX10_readRow_74 rfl ?_
      refine mm_ishl (pc := 76) dX10_readRow_76 ?_
      refine mm_ior (pc := 77) dX10_readRow_77 ?_
      refine mm_istore_n (pc := 78) (lv' := [(2, .int (y2 ||| ((1 : Int32) <<< (z23 &&& 31)))), (4, .int z23), (0, .ref 149), (1, .ref a1), (3, .int y3)]) dX10_readRow_78 rfl (by decide) rfl ?_
      refine mm_iinc (pc := 79) (j := 4) (v := y3 + 1) (lv' := [(3, .int (y3 + 1)), (2, .int (y2 ||| ((1 : Int32) <<< (z23 &&& 31)))), (4, .int z23), (0, .ref 149), (1, .ref a1)]) dX10_readRow_79 rfl rfl (by decide) rfl ?_
      refine mm_goto (pc := 82) (tgt := 14) dX10_readRow_82 (by decide) ?_
      exact mm_sub [3, 4, 1, 0] rfl h
def jX10_firstBaker_40 (d : Nat) (x1 : Int32) (x2 : Int32) (M : mm_M) (K : Int32 → mm_M → Prop) (y1 : Int32) (y2 : Int32) (y3 : Int32) (y4 : Int32) (y5 : Int32) : Prop := mm_W mX10_firstBaker d 0 0 40 [(0, .ref 149), (1, .int y1), (2, .int y2), (3, .int y3), (4, .int y4), (5, .int y5)] [] mm_SH M 0 0 (mm_PI K)
set_option maxRecDepth 100000 in
set_option maxHeartbeats 4000000 in
theorem rX10_firstBaker {d : Nat} {x1 : Int32} {x2 : Int32} {M : mm_M} {K : Int32 → mm_M → Prop} (hG : mm_G M.2.2) (h : vp_in ((x1 * 128) + x2) 1024 ∧ vp_in (((x1 + 1) * 128) + x2) 1024 ∧ if (M.1 152 (((x1 + 1) * 128) + x2).toNatClampNeg) = (M.1 152 ((x1 * 128) + x2).toNatClampNeg) then (K (-1) M) else (jX10_firstBaker_40 d x1 x2 M K x1 x2 ((x1 + 1) * 128) (M.1 152 ((x1 * 128) + x2).toNatClampNeg) 0)) : mm_CI mX10_firstBaker d [.ref 149, .int x1, .int x2] M K := by
  show mm_W mX10_firstBaker d 0 0 0 [(0, .ref 149), (1, .int x1), (2, .int x2)] [] mm_SH M 0 0 (mm_PI K)
  refine mm_iload_n (pc := 0) (j := 1) dX10_firstBaker_0 rfl rfl ?_
  refine mm_iconst (pc := 1) (x := 1) dX10_firstBaker_1 rfl ?_
  refine mm_iadd (pc := 2) dX10_firstBaker_2 ?_
  refine mm_sipush (pc := 3) (x := 128) dX10_firstBaker_3 rfl ?_
  refine mm_imul (pc := 6) dX10_firstBaker_6 ?_
  refine mm_istore_n (pc := 7) (lv' := [(3, .int ((x1 + 1) * 128)), (0, .ref 149), (1, .int x1), (2, .int x2)]) dX10_firstBaker_7 rfl (by decide) rfl ?_
  refine mm_aload_n (pc := 8) (j := 1) dX10_firstBaker_8 rfl rfl ?_
  refine mm_getR (pc := 9) (ci := 10) (N := 11) (r := 152) dX10_firstBaker_9 fX10_25 sh_149 rfl (g_149_7 hG) ?_
  refine mm_iload_n (pc := 12) (j := 2) dX10_firstBaker_12 rfl rfl ?_
  refine mm_sipush (pc := 13) (x := 128) dX10_firstBaker_13 rfl ?_
  refine mm_imul (pc := 16) dX10_firstBaker_16 ?_
  refine mm_iload_n (pc := 17) (j := 3) dX10_firstBaker_17 rfl rfl ?_
  refine mm_iadd (pc := 18) dX10_firstBaker_18 ?_
  obtain ⟨hi19, h⟩ := h
  refine mm_iaload (pc := 19) (N := 1024) dX10_firstBaker_19 sh_152 hi19 ?_
  refine mm_istore (pc := 20) (lv' := [(4, .int (M.1 152 ((x1 * 128) + x2).toNatClampNeg)), (3, .int ((x1 + 1) * 128)), (0, .ref 149), (1, .int x1), (2, .int x2)]) dX10_firstBaker_20 (by decide) rfl ?_
  refine mm_aload_n (pc := 22) (j := 2) dX10_firstBaker_22 rfl rfl ?_
  refine mm_getR (pc := 23) (ci := 10) (N := 11) (r := 152) dX10_firstBaker_23 fX10_25 sh_149 rfl (g_149_7 hG) ?_
  refine mm_iload_n (pc := 26) (j := 1) dX10_firstBaker_26 rfl rfl ?_
  refine mm_iload_n (pc := 27) (j := 4) dX10_firstBaker_27 rfl rfl ?_
  refine mm_iadd (pc := 28) dX10_firstBaker_28 ?_
  obtain ⟨hi29, h⟩ := h
  refine mm_iaload (pc := 29) (N := 1024) dX10_firstBaker_29 sh_152 hi29 ?_
  refine mm_iload (pc := 30) (j := 0) dX10_firstBaker_30 rfl ?_
  refine mm_icmp_ne (pc := 32) (tgt := 37) dX10_firstBaker_32 (by decide) (fun hc => ?_) (fun hc => ?_)
  · have h := mm_iff hc h
    refine mm_iconst (pc := 37) (x := 0) dX10_firstBaker_37 rfl ?_
    refine mm_istore (pc := 38) (lv' := [(5, .int 0), (4, .int (M.1 152 ((x1 * 128) + x2).toNatClampNeg)), (3, .int ((x1 + 1) * 128)), (0, .ref 149), (1, .int x1), (2, .int x2)]) dX10_firstBaker_38 (by decide) rfl ?_
    exact mm_sub [3, 4, 5, 2, 1, 0] rfl h
  · have h := mm_ift hc h
    refine mm_iconst (pc := 35) (x := (-1)) dX10_firstBaker_35 rfl ?_
    exact mm_iret (pc := 36) dX10_firstBaker_36 rfl (Nat.le_refl 0) (Nat.le_refl 0) ⟨_, rfl, rfl, hG, h⟩
set_option maxRecDepth 100000 in
set_option maxHeartbeats 4000000 in
theorem lX10_firstBaker_40 {d : Nat} {x1 : Int32} {x2 : Int32} {M : mm_M} {K : Int32 → mm_M → Prop} {y1 : Int32} {y2 : Int32} {y3 : Int32} {y4 : Int32} {y5 : Int32} (hG : mm_G M.2.2) (h : if 7 ≤ y5 then (K (-1) M) else (vp_in ((8 * y1) + y5) 64 ∧ if (M.1 153 ((8 * y1) + y5).toNatClampNeg) ≤ 0 then (jX10_firstBaker_40 d x1 x2 M K y1 y2 y3 y4 (y5 + 1)) else (if ((y2 >>> (y5 &&& 31)) &&& 1) = 0 then (vp_in (y3 + (y2 ||| ((1 : Int32) <<< (y5 &&& 31)))) 1024 ∧ if ((M.1 153 ((8 * y1) + y5).toNatClampNeg) + (M.1 152 (y3 + (y2 ||| ((1 : Int32) <<< (y5 &&& 31)))).toNatClampNeg)) = y4 then (K y5 M) else (jX10_firstBaker_40 d x1 x2 M K y1 y2 y3 y4 (y5 + 1))) else (jX10_firstBaker_40 d x1 x2 M K y1 y2 y3 y4 (y5 + 1))))) : jX10_firstBaker_40 d x1 x2 M K y1 y2 y3 y4 y5 := by
  unfold jX10_firstBaker_40
  refine mm_iload (pc := 40) (j := 5) dX10_firstBaker_40 rfl ?_
  refine mm_bipush (pc := 42) (x := 7) dX10_firstBaker_42 rfl ?_
  refine mm_icmp_ge (pc := 44) (tgt := 105) dX10_firstBaker_44 (by decide) (fun hc => ?_) (fun hc => ?_)
  · have h := mm_ift hc h
    refine mm_iconst (pc := 105) (x := (-1)) dX10_firstBaker_105 rfl ?_
    exact mm_iret (pc := 106) dX10_firstBaker_106 rfl (Nat.le_refl 0) (Nat.le_refl 0) ⟨_, rfl, rfl, hG, h⟩
  · have h := mm_iff hc h
    refine mm_aload_n (pc := 47) (j := 0) dX10_firstBaker_47 rfl rfl ?_
    refine mm_getR (pc := 48) (ci := 10) (N := 11) (r := 153) dX10_firstBaker_48 fX10_28 sh_149 rfl (g_149_8 hG) ?_
    refine mm_bipush (pc := 51) (x := 8) dX10_firstBaker_51 rfl ?_
    refine mm_iload_n (pc := 53) (j := 1) dX10_firstBaker_53 rfl rfl ?_
    refine mm_imul (pc := 54) dX10_firstBaker_54 ?_
    refine mm_iload (pc := 55) (j := 5) dX10_firstBaker_55 rfl ?_
    refine mm_iadd (pc := 57) dX10_firstBaker_57 ?_
    obtain ⟨hi58, h⟩ := h
    refine mm_iaload (pc := 58) (N := 64) dX10_firstBaker_58 sh_153 hi58 ?_
    refine mm_istore (pc := 59) (lv' := [(6, .int (M.1 153 ((8 * y1) + y5).toNatClampNeg)), (0, .ref 149), (1, .int y1), (2, .int y2), (3, .int y3), (4, .int y4), (5, .int y5)]) dX10_firstBaker_59 (by decide) rfl ?_
    refine mm_iload (pc := 61) (j := 0) dX10_firstBaker_61 rfl ?_
    refine mm_if_le (pc := 63) (tgt := 99) dX10_firstBaker_63 (by decide) (fun hc => ?_) (fun hc => ?_)
    · have h := mm_ift hc h
      refine mm_iinc (pc := 99) (j := 6) (v := y5 + 1) (lv' := [(5, .int (y5 + 1)), (6, .int (M.1 153 ((8 * y1) + y5).toNatClampNeg)), (0, .ref 149), (1, .int y1), (2, .int y2), (3, .int y3), (4, .int y4)]) dX10_firstBaker_99 rfl rfl (by decide) rfl ?_
      refine mm_goto (pc := 102) (tgt := 40) dX10_firstBaker_102 (by decide) ?_
      exact mm_sub [2, 3, 4, 5, 6, 0] rfl h
    · have h := mm_iff hc h
      refine mm_iload_n (pc := 66) (j := 3) dX10_firstBaker_66 rfl rfl ?_
      refine mm_iload (pc := 67) (j := 6) dX10_firstBaker_67 rfl ?_
      refine mm_ishr (pc := 69) dX10_firstBaker_69 ?_
      refine mm_iconst (pc := 70) (x := 1) dX10_firstBaker_70 rfl ?_
      refine mm_iand (pc := 71) dX10_firstBaker_71 ?_
      refine mm_if_ne (pc := 72) (tgt := 99) dX10_firstBaker_72 (by decide) (fun hc => ?_) (fun hc => ?_)
      · have h := mm_iff hc h
        refine mm_iinc (pc := 99) (j := 6) (v := y5 + 1) (lv' := [(5, .int (y5 + 1)), (6, .int (M.1 153 ((8 * y1) + y5).toNatClampNeg)), (0, .ref 149), (1, .int y1), (2, .int y2), (3, .int y3), (4, .int y4)]) dX10_firstBaker_99 rfl rfl (by decide) rfl ?_
        refine mm_goto (pc := 102) (tgt := 40) dX10_firstBaker_102 (by decide) ?_
        exact mm_sub [2, 3, 4, 5, 6, 0] rfl h
      · have h := mm_ift hc h
        refine mm_iload (pc := 75) (j := 0) dX10_firstBaker_75 rfl ?_
        refine mm_aload_n (pc := 77) (j := 1) dX10_firstBaker_77 rfl rfl ?_
        refine mm_getR (pc := 78) (ci := 10) (N := 11) (r := 152) dX10_firstBaker_78 fX10_25 sh_149 rfl (g_149_7 hG) ?_
        refine mm_iload_n (pc := 81) (j := 4) dX10_firstBaker_81 rfl rfl ?_
        refine mm_iload_n (pc := 82) (j := 3) dX10_firstBaker_82 rfl rfl ?_
        refine mm_iconst (pc := 83) (x := 1) dX10_firstBaker_83 rfl ?_
        refine mm_iload (pc := 84) (j := 6) dX10_firstBaker_84 rfl ?_
        refine mm_ishl (pc := 86) dX10_firstBaker_86 ?_
        refine mm_ior (pc := 87) dX10_firstBaker_87 ?_
        refine mm_iadd (pc := 88) dX10_firstBaker_88 ?_
        obtain ⟨hi89, h⟩ := h
        refine mm_iaload (pc := 89) (N := 1024) dX10_firstBaker_89 sh_152 hi89 ?_
        refine mm_iadd (pc := 90) dX10_firstBaker_90 ?_
        refine mm_iload (pc := 91) (j := 5) dX10_firstBaker_91 rfl ?_
        refine mm_icmp_ne (pc := 93) (tgt := 99) dX10_firstBaker_93 (by decide) (fun hc => ?_) (fun hc => ?_)
        · have h := mm_iff hc h
          refine mm_iinc (pc := 99) (j := 6) (v := y5 + 1) (lv' := [(5, .int (y5 + 1)), (6, .int (M.1 153 ((8 * y1) + y5).toNatClampNeg)), (0, .ref 149), (1, .int y1), (2, .int y2), (3, .int y3), (4, .int y4)]) dX10_firstBaker_99 rfl rfl (by decide) rfl ?_
          refine mm_goto (pc := 102) (tgt := 40) dX10_firstBaker_102 (by decide) ?_
          exact mm_sub [2, 3, 4, 5, 6, 0] rfl h
        · have h := mm_ift hc h
          refine mm_iload (pc := 96) (j := 6) dX10_firstBaker_96 rfl ?_
          exact mm_iret (pc := 98) dX10_firstBaker_98 rfl (Nat.le_refl 0) (Nat.le_refl 0) ⟨_, rfl, rfl, hG, h⟩
def jX10_seekWanted_22 (d : Nat) (a1 : Nat) (a2 : Nat) (x3 : Int32) (M : mm_M) (K : mm_M → Prop) (y4 : Int32) : Prop := mm_W mX10_seekWanted (d + 1) 0 0 22 [(0, .ref 149), (1, .ref a1), (2, .ref a2), (4, .int y4)] [] mm_SH M 0 0 (mm_PV K)
def jX10_seekWanted_75 (d : Nat) (a1 : Nat) (a2 : Nat) (x3 : Int32) (M : mm_M) (K : mm_M → Prop) (y4 : Int32) : Prop := mm_W mX10_seekWanted (d + 1) 0 0 75 [(0, .ref 149), (2, .ref a2), (4, .int y4)] [] mm_SH M 0 0 (mm_PV K)
set_option maxRecDepth 100000 in
set_option maxHeartbeats 4000000 in
theorem rX10_seekWanted {d : Nat} {a1 : Nat} {a2 : Nat} {x3 : Int32} {M : mm_M} {K : mm_M → Prop} (ha1 : a1 ∈ mm_Rls) (ha2 : a2 ∈ mm_Sts) (hG : mm_G M.2.2) (h : if (M.1 149 6) = x3 then (K M) else (jX10_seekWanted_22 d a1 a2 x3 (mm_uI (mm_uI M 149 6 x3) 149 3 (-1)) K 0)) : mm_CV mX10_seekWanted (d + 1) [.ref 149, .ref a1, .ref a2, .int x3] M K := by
  show mm_W mX10_seekWanted (d + 1) 0 0 0 [(0, .ref 149), (1, .ref a1), (2, .ref a2), (3, .int x3)] [] mm_SH M 0 0 (mm_PV K)
  refine mm_aload_n (pc := 0) (j := 0) dX10_seekWanted_0 rfl rfl ?_
  refine mm_getI (pc := 1) (ci := 10) (N := 11) dX10_seekWanted_1 fX10_22 sh_149 rfl ?_
  refine mm_iload_n (pc := 4) (j := 3) dX10_seekWanted_4 rfl rfl ?_
  refine mm_icmp_ne (pc := 5) (tgt := 9) dX10_seekWanted_5 (by decide) (fun hc => ?_) (fun hc => ?_)
  · have h := mm_iff hc h
    refine mm_aload_n (pc := 9) (j := 0) dX10_seekWanted_9 rfl rfl ?_
    refine mm_iload_n (pc := 10) (j := 3) dX10_seekWanted_10 rfl rfl ?_
    refine mm_putI (pc := 11) (ci := 10) (N := 11) dX10_seekWanted_11 fX10_22 sh_149 (by decide +kernel) rfl rfl rfl ?_
    refine mm_aload_n (pc := 14) (j := 0) dX10_seekWanted_14 rfl rfl ?_
    refine mm_iconst (pc := 15) (x := (-1)) dX10_seekWanted_15 rfl ?_
    refine mm_putI (pc := 16) (ci := 10) (N := 11) dX10_seekWanted_16 fX10_82 sh_149 (by decide +kernel) rfl rfl rfl ?_
    refine mm_iconst (pc := 19) (x := 0) dX10_seekWanted_19 rfl ?_
    refine mm_istore (pc := 20) (lv' := [(4, .int 0), (0, .ref 149), (1, .ref a1), (2, .ref a2), (3, .int x3)]) dX10_seekWanted_20 (by decide) rfl ?_
    exact mm_sub [1, 2, 3, 0] rfl h
  · have h := mm_ift hc h
    exact mm_vret (pc := 8) dX10_seekWanted_8 rfl (Nat.le_refl 0) (Nat.le_refl 0) ⟨rfl, rfl, hG, h⟩
set_option maxRecDepth 100000 in
set_option maxHeartbeats 4000000 in
theorem lX10_seekWanted_22 {d : Nat} {a1 : Nat} {a2 : Nat} {x3 : Int32} {M : mm_M} {K : mm_M → Prop} {y4 : Int32} (ha1 : a1 ∈ mm_Rls) (ha2 : a2 ∈ mm_Sts) (hG : mm_G M.2.2) (h : if 7 ≤ y4 then (jX10_seekWanted_75 d a1 a2 x3 M K 0) else (mm_CI mX9_isThere d [.ref a2, .int y4] M (fun z32 m32 => if z32 = 0 then (mm_CI mX10_foesOf d [.ref a2, .int y4] m32 (fun z62 m62 => vp_in y4 7 ∧ jX10_seekWanted_22 d a1 a2 x3 (mm_uI m62 154 y4.toNatClampNeg z62) K (y4 + 1))) else (vp_in y4 7 ∧ if (m32.1 a1 1) ≤ (m32.1 (a2 + 1) y4.toNatClampNeg) then (mm_CI mX10_foesOf d [.ref a2, .int y4] m32 (fun z62 m62 => vp_in y4 7 ∧ jX10_seekWanted_22 d a1 a2 x3 (mm_uI m62 154 y4.toNatClampNeg z62) K (y4 + 1))) else (K m32))))) : jX10_seekWanted_22 d a1 a2 x3 M K y4 := by
  unfold jX10_seekWanted_22
  refine mm_iload (pc := 22) (j := 3) dX10_seekWanted_22 rfl ?_
  refine mm_bipush (pc := 24) (x := 7) dX10_seekWanted_24 rfl ?_
  refine mm_icmp_ge (pc := 26) (tgt := 72) dX10_seekWanted_26 (by decide) (fun hc => ?_) (fun hc => ?_)
  · have h := mm_ift hc h
    refine mm_iconst (pc := 72) (x := 0) dX10_seekWanted_72 rfl ?_
    refine mm_istore (pc := 73) (lv' := [(4, .int 0), (0, .ref 149), (1, .ref a1), (2, .ref a2)]) dX10_seekWanted_73 (by decide) rfl ?_
    exact mm_sub [1, 3, 0] rfl h
  · have h := mm_iff hc h
    refine mm_aload_n (pc := 29) (j := 2) dX10_seekWanted_29 rfl rfl ?_
    refine mm_iload (pc := 30) (j := 3) dX10_seekWanted_30 rfl ?_
    refine mm_kVI (pc := 32) [.int y4] dX10_seekWanted_32 kX10_85 rfl (sh_St ha2) (Nat.le_of_ble_eq_true rfl) (Nat.le_of_ble_eq_true rfl) h (fun z32 m32 hG h => ?_)
    refine mm_if_eq (pc := 35) (tgt := 53) dX10_seekWanted_35 (by decide) (fun hc => ?_) (fun hc => ?_)
    · have h := mm_ift hc h
      refine mm_aload_n (pc := 53) (j := 0) dX10_seekWanted_53 rfl rfl ?_
      refine mm_getR (pc := 54) (ci := 10) (N := 11) (r := 154) dX10_seekWanted_54 fX10_31 sh_149 rfl (g_149_9 hG) ?_
      refine mm_iload (pc := 57) (j := 3) dX10_seekWanted_57 rfl ?_
      refine mm_aload_n (pc := 59) (j := 2) dX10_seekWanted_59 rfl rfl ?_
      refine mm_iload (pc := 60) (j := 3) dX10_seekWanted_60 rfl ?_
      refine mm_kSI (pc := 62) [.ref a2, .int y4] dX10_seekWanted_62 kX10_89 rfl (Nat.le_of_ble_eq_true rfl) (Nat.le_of_ble_eq_true rfl) h (fun z62 m62 hG h => ?_)
      obtain ⟨hi65, h⟩ := h
      refine mm_iastore (pc := 65) (N := 7) dX10_seekWanted_65 sh_154 hi65 ?_
      refine mm_iinc (pc := 66) (j := 3) (v := y4 + 1) (lv' := [(4, .int (y4 + 1)), (0, .ref 149), (1, .ref a1), (2, .ref a2)]) dX10_seekWanted_66 rfl rfl (by decide) rfl ?_
      refine mm_goto (pc := 69) (tgt := 22) dX10_seekWanted_69 (by decide) ?_
      exact mm_sub [1, 2, 3, 0] rfl h
    · have h := mm_iff hc h
      refine mm_aload_n (pc := 38) (j := 2) dX10_seekWanted_38 rfl rfl ?_
      refine mm_getR (pc := 39) (ci := 9) (N := 7) (r := a2 + 1) dX10_seekWanted_39 fX10_60 (sh_St ha2) rfl (g_St_3 hG ha2) ?_
      refine mm_iload (pc := 42) (j := 3) dX10_seekWanted_42 rfl ?_
      obtain ⟨hi44, h⟩ := h
      refine mm_iaload (pc := 44) (N := 7) dX10_seekWanted_44 (sh_St_1 ha2) hi44 ?_
      refine mm_aload_n (pc := 45) (j := 1) dX10_seekWanted_45 rfl rfl ?_
      refine mm_getI (pc := 46) (ci := 7) (N := 11) dX10_seekWanted_46 fX10_63 (sh_Rl ha1) rfl ?_
      refine mm_icmp_ge (pc := 49) (tgt := 53) dX10_seekWanted_49 (by decide) (fun hc => ?_) (fun hc => ?_)
      · have h := mm_ift hc h
        refine mm_aload_n (pc := 53) (j := 0) dX10_seekWanted_53 rfl rfl ?_
        refine mm_getR (pc := 54) (ci := 10) (N := 11) (r := 154) dX10_seekWanted_54 fX10_31 sh_149 rfl (g_149_9 hG) ?_
        refine mm_iload (pc := 57) (j := 3) dX10_seekWanted_57 rfl ?_
        refine mm_aload_n (pc := 59) (j := 2) dX10_seekWanted_59 rfl rfl ?_
        refine mm_iload (pc := 60) (j := 3) dX10_seekWanted_60 rfl ?_
        refine mm_kSI (pc := 62) [.ref a2, .int y4] dX10_seekWanted_62 kX10_89 rfl (Nat.le_of_ble_eq_true rfl) (Nat.le_of_ble_eq_true rfl) h (fun z62 m62 hG h => ?_)
        obtain ⟨hi65, h⟩ := h
        refine mm_iastore (pc := 65) (N := 7) dX10_seekWanted_65 sh_154 hi65 ?_
        refine mm_iinc (pc := 66) (j := 3) (v := y4 + 1) (lv' := [(4, .int (y4 + 1)), (0, .ref 149), (1, .ref a1), (2, .ref a2)]) dX10_seekWanted_66 rfl rfl (by decide) rfl ?_
        refine mm_goto (pc := 69) (tgt := 22) dX10_seekWanted_69 (by decide) ?_
        exact mm_sub [1, 2, 3, 0] rfl h
      · have h := mm_iff hc h
        exact mm_vret (pc := 52) dX10_seekWanted_52 rfl (Nat.le_refl 0) (Nat.le_refl 0) ⟨rfl, rfl, hG, h⟩
set_option maxRecDepth 100000 in
set_option maxHeartbeats 4000000 in
theorem lX10_seekWanted_75 {d : Nat} {a1 : Nat} {a2 : Nat} {x3 : Int32} {M : mm_M} {K : mm_M → Prop} {y4 : Int32} (ha1 : a1 ∈ mm_Rls) (ha2 : a2 ∈ mm_Sts) (hG : mm_G M.2.2) (h : if 3 < y4 then (K M) else (mm_CI mX10_addFeuds d [.ref 149, .int (M.1 a2 1), .int 0, .int 0, .int y4] M (fun z90 m90 => if z90 = 0 then (jX10_seekWanted_75 d a1 a2 x3 m90 K (y4 + 1)) else (K (mm_uI m90 149 3 y4))))) : jX10_seekWanted_75 d a1 a2 x3 M K y4 := by
  unfold jX10_seekWanted_75
  refine mm_iload (pc := 75) (j := 2) dX10_seekWanted_75 rfl ?_
  refine mm_iconst (pc := 77) (x := 3) dX10_seekWanted_77 rfl ?_
  refine mm_icmp_gt (pc := 78) (tgt := 109) dX10_seekWanted_78 (by decide) (fun hc => ?_) (fun hc => ?_)
  · have h := mm_ift hc h
    exact mm_vret (pc := 109) dX10_seekWanted_109 rfl (Nat.le_refl 0) (Nat.le_refl 0) ⟨rfl, rfl, hG, h⟩
  · have h := mm_iff hc h
    refine mm_aload_n (pc := 81) (j := 0) dX10_seekWanted_81 rfl rfl ?_
    refine mm_aload_n (pc := 82) (j := 1) dX10_seekWanted_82 rfl rfl ?_
    refine mm_getI (pc := 83) (ci := 9) (N := 7) dX10_seekWanted_83 fX10_93 (sh_St ha2) rfl ?_
    refine mm_iconst (pc := 86) (x := 0) dX10_seekWanted_86 rfl ?_
    refine mm_iconst (pc := 87) (x := 0) dX10_seekWanted_87 rfl ?_
    refine mm_iload (pc := 88) (j := 2) dX10_seekWanted_88 rfl ?_
    refine mm_kVI (pc := 90) [.int (M.1 a2 1), .int 0, .int 0, .int y4] dX10_seekWanted_90 kX10_96 rfl sh_149 (Nat.le_of_ble_eq_true rfl) (Nat.le_of_ble_eq_true rfl) h (fun z90 m90 hG h => ?_)
    refine mm_if_eq (pc := 93) (tgt := 103) dX10_seekWanted_93 (by decide) (fun hc => ?_) (fun hc => ?_)
    · have h := mm_ift hc h
      refine mm_iinc (pc := 103) (j := 2) (v := y4 + 1) (lv' := [(4, .int (y4 + 1)), (0, .ref 149), (2, .ref a2)]) dX10_seekWanted_103 rfl rfl (by decide) rfl ?_
      refine mm_goto (pc := 106) (tgt := 75) dX10_seekWanted_106 (by decide) ?_
      exact mm_sub [1, 2, 0] rfl h
    · have h := mm_iff hc h
      refine mm_aload_n (pc := 96) (j := 0) dX10_seekWanted_96 rfl rfl ?_
      refine mm_iload (pc := 97) (j := 2) dX10_seekWanted_97 rfl ?_
      refine mm_putI (pc := 99) (ci := 10) (N := 11) dX10_seekWanted_99 fX10_82 sh_149 (by decide +kernel) rfl rfl rfl ?_
      exact mm_vret (pc := 102) dX10_seekWanted_102 rfl (Nat.le_refl 0) (Nat.le_refl 0) ⟨rfl, rfl, hG, h⟩
def jX10_foesOf_4 (d : Nat) (a0 : Nat) (x1 : Int32) (M : mm_M) (K : Int32 → mm_M → Prop) (y1 : Int32) (y2 : Int32) (y3 : Int32) : Prop := mm_W mX10_foesOf d 0 0 4 [(0, .ref a0), (1, .int y1), (2, .int y2), (3, .int y3)] [] mm_SH M 0 0 (mm_PI K)
set_option maxRecDepth 100000 in
set_option maxHeartbeats 4000000 in
theorem rX10_foesOf {d : Nat} {a0 : Nat} {x1 : Int32} {M : mm_M} {K : Int32 → mm_M → Prop} (ha0 : a0 ∈ mm_Sts) (hG : mm_G M.2.2) (h : jX10_foesOf_4 d a0 x1 M K x1 0 0) : mm_CI mX10_foesOf d [.ref a0, .int x1] M K := by
  show mm_W mX10_foesOf d 0 0 0 [(0, .ref a0), (1, .int x1)] [] mm_SH M 0 0 (mm_PI K)
  refine mm_iconst (pc := 0) (x := 0) dX10_foesOf_0 rfl ?_
  refine mm_istore_n (pc := 1) (lv' := [(2, .int 0), (0, .ref a0), (1, .int x1)]) dX10_foesOf_1 rfl (by decide) rfl ?_
  refine mm_iconst (pc := 2) (x := 0) dX10_foesOf_2 rfl ?_
  refine mm_istore_n (pc := 3) (lv' := [(3, .int 0), (2, .int 0), (0, .ref a0), (1, .int x1)]) dX10_foesOf_3 rfl (by decide) rfl ?_
  exact mm_sub [2, 3, 1, 0] rfl h
set_option maxRecDepth 100000 in
set_option maxHeartbeats 4000000 in
theorem lX10_foesOf_4 {d : Nat} {a0 : Nat} {x1 : Int32} {M : mm_M} {K : Int32 → mm_M → Prop} {y1 : Int32} {y2 : Int32} {y3 : Int32} (ha0 : a0 ∈ mm_Sts) (hG : mm_G M.2.2) (h : if 7 ≤ y3 then (K y2 M) else (vp_in ((8 * y1) + y3) 64 ∧ if (M.1 (a0 + 3) ((8 * y1) + y3).toNatClampNeg) ≤ 0 then (jX10_foesOf_4 d a0 x1 M K y1 y2 (y3 + 1)) else (jX10_foesOf_4 d a0 x1 M K y1 (y2 ||| ((1 : Int32) <<< (y3 &&& 31))) (y3 + 1)))) : jX10_foesOf_4 d a0 x1 M K y1 y2 y3 := by
  unfold jX10_foesOf_4
  refine mm_iload_n (pc := 4) (j := 3) dX10_foesOf_4 rfl rfl ?_
  refine mm_bipush (pc := 5) (x := 7) dX10_foesOf_5 rfl ?_
  refine mm_icmp_ge (pc := 7) (tgt := 36) dX10_foesOf_7 (by decide) (fun hc => ?_) (fun hc => ?_)
  · have h := mm_ift hc h
    refine mm_iload_n (pc := 36) (j := 2) dX10_foesOf_36 rfl rfl ?_
    exact mm_iret (pc := 37) dX10_foesOf_37 rfl (Nat.le_refl 0) (Nat.le_refl 0) ⟨_, rfl, rfl, hG, h⟩
  · have h := mm_iff hc h
    refine mm_aload_n (pc := 10) (j := 0) dX10_foesOf_10 rfl rfl ?_
    refine mm_getR (pc := 11) (ci := 9) (N := 7) (r := a0 + 3) dX10_foesOf_11 fX10_55 (sh_St ha0) rfl (g_St_5 hG ha0) ?_
    refine mm_bipush (pc := 14) (x := 8) dX10_foesOf_14 rfl ?_
    refine mm_iload_n (pc := 16) (j := 1) dX10_foesOf_16 rfl rfl ?_
    refine mm_imul (pc := 17) dX10_foesOf_17 ?_
    refine mm_iload_n (pc := 18) (j := 3) dX10_foesOf_18 rfl rfl ?_
    refine mm_iadd (pc := 19) dX10_foesOf_19 ?_
    obtain ⟨hi20, h⟩ := h
    refine mm_iaload (pc := 20) (N := 64) dX10_foesOf_20 (sh_St_3 ha0) hi20 ?_
    refine mm_if_le (pc := 21) (tgt := 30) dX10_foesOf_21 (by decide) (fun hc => ?_) (fun hc => ?_)
    · have h := mm_ift hc h
      refine mm_iinc (pc := 30) (j := 3) (v := y3 + 1) (lv' := [(3, .int (y3 + 1)), (0, .ref a0), (1, .int y1), (2, .int y2)]) dX10_foesOf_30 rfl rfl (by decide) rfl ?_
      refine mm_goto (pc := 33) (tgt := 4) dX10_foesOf_33 (by decide) ?_
      exact mm_sub [1, 2, 3, 0] rfl h
    · have h := mm_iff hc h
      refine mm_iload_n (pc := 24) (j := 2) dX10_foesOf_24 rfl rfl ?_
      refine mm_iconst (pc := 25) (x := 1) dX10_foesOf_25 rfl ?_
      refine mm_iload_n (pc := 26) (j := 3) dX10_foesOf_26 rfl rfl ?_
      refine mm_ishl (pc := 27) dX10_foesOf_27 ?_
      refine mm_ior (pc := 28) dX10_foesOf_28 ?_
      refine mm_istore_n (pc := 29) (lv' := [(2, .int (y2 ||| ((1 : Int32) <<< (y3 &&& 31)))), (0, .ref a0), (1, .int y1), (3, .int y3)]) dX10_foesOf_29 rfl (by decide) rfl ?_
      refine mm_iinc (pc := 30) (j := 3) (v := y3 + 1) (lv' := [(3, .int (y3 + 1)), (2, .int (y2 ||| ((1 : Int32) <<< (y3 &&& 31)))), (0, .ref a0), (1, .int y1)]) dX10_foesOf_30 rfl rfl (by decide) rfl ?_
      refine mm_goto (pc := 33) (tgt := 4) dX10_foesOf_33 (by decide) ?_
      exact mm_sub [2, 3, 1, 0] rfl h
def jX10_addFeuds_20 (d : Nat) (x1 : Int32) (x2 : Int32) (x3 : Int32) (x4 : Int32) (M : mm_M) (K : Int32 → mm_M → Prop) (y1 : Int32) (y3 : Int32) (y4 : Int32) (y5 : Int32) : Prop := mm_W mX10_addFeuds (d + 1) 0 0 20 [(0, .ref 149), (1, .int y1), (3, .int y3), (4, .int y4), (5, .int y5)] [] mm_SH M 0 0 (mm_PI K)
def jX10_addFeuds_67 (d : Nat) (x1 : Int32) (x2 : Int32) (x3 : Int32) (x4 : Int32) (M : mm_M) (K : Int32 → mm_M → Prop) (y1 : Int32) (y3 : Int32) (y4 : Int32) (y5 : Int32) (y6 : Int32) (y7 : Int32) (u0 : Int32) : Prop := mm_W mX10_addFeuds (d + 1) 0 0 67 [(0, .ref 149), (1, .int y1), (3, .int y3), (4, .int y4), (5, .int y5), (6, .int y6), (7, .int y7)] [.int u0] mm_SH M 0 0 (mm_PI K)
set_option maxRecDepth 100000 in
set_option maxHeartbeats 4000000 in
theorem rX10_addFeuds {d : Nat} {x1 : Int32} {x2 : Int32} {x3 : Int32} {x4 : Int32} {M : mm_M} {K : Int32 → mm_M → Prop} (hG : mm_G M.2.2) (h : if x4 ≤ x3 then (mm_CI mX10_allEat d [.ref 149, .int x1] M (fun z13 m13 => (z13 = 0 ∨ z13 = 1) ∧ K z13 m13)) else (if x3 < 3 then (jX10_addFeuds_20 d x1 x2 x3 x4 M K x1 x3 x4 x2) else (mm_CI mX10_allEat d [.ref 149, .int x1] M (fun z13 m13 => (z13 = 0 ∨ z13 = 1) ∧ K z13 m13)))) : mm_CI mX10_addFeuds (d + 1) [.ref 149, .int x1, .int x2, .int x3, .int x4] M K := by
  show mm_W mX10_addFeuds (d + 1) 0 0 0 [(0, .ref 149), (1, .int x1), (2, .int x2), (3, .int x3), (4, .int x4)] [] mm_SH M 0 0 (mm_PI K)
  refine mm_iload_n (pc := 0) (j := 3) dX10_addFeuds_0 rfl rfl ?_
  refine mm_iload (pc := 1) (j := 4) dX10_addFeuds_1 rfl ?_
  refine mm_icmp_ge (pc := 3) (tgt := 11) dX10_addFeuds_3 (by decide) (fun hc => ?_) (fun hc => ?_)
  · have h := mm_ift hc h
    refine mm_aload_n (pc := 11) (j := 0) dX10_addFeuds_11 rfl rfl ?_
    refine mm_iload_n (pc := 12) (j := 1) dX10_addFeuds_12 rfl rfl ?_
    refine mm_kVI (pc := 13) [.int x1] dX10_addFeuds_13 kX10_100 rfl sh_149 (Nat.le_of_ble_eq_true rfl) (Nat.le_of_ble_eq_true rfl) h (fun z13 m13 hG h => ?_)
    obtain ⟨hb, h⟩ := h
    exact mm_zret (pc := 16) dX10_addFeuds_16 rfl (mm_nb hb) (Nat.le_refl 0) (Nat.le_refl 0) ⟨_, rfl, rfl, hG, h⟩
  · have h := mm_iff hc h
    refine mm_iload_n (pc := 6) (j := 3) dX10_addFeuds_6 rfl rfl ?_
    refine mm_iconst (pc := 7) (x := 3) dX10_addFeuds_7 rfl ?_
    refine mm_icmp_lt (pc := 8) (tgt := 17) dX10_addFeuds_8 (by decide) (fun hc => ?_) (fun hc => ?_)
    · have h := mm_ift hc h
      refine mm_iload_n (pc := 17) (j := 2) dX10_addFeuds_17 rfl rfl ?_
      refine mm_istore (pc := 18) (lv' := [(5, .int x2), (0, .ref 149), (1, .int x1), (2, .int x2), (3, .int x3), (4, .int x4)]) dX10_addFeuds_18 (by decide) rfl ?_
      exact mm_sub [1, 2, 4, 5, 0] rfl h
    · have h := mm_iff hc h
      refine mm_aload_n (pc := 11) (j := 0) dX10_addFeuds_11 rfl rfl ?_
      refine mm_iload_n (pc := 12) (j := 1) dX10_addFeuds_12 rfl rfl ?_
      refine mm_kVI (pc := 13) [.int x1] dX10_addFeuds_13 kX10_100 rfl sh_149 (Nat.le_of_ble_eq_true rfl) (Nat.le_of_ble_eq_true rfl) h (fun z13 m13 hG h => ?_)
      obtain ⟨hb, h⟩ := h
      exact mm_zret (pc := 16) dX10_addFeuds_16 rfl (mm_nb hb) (Nat.le_refl 0) (Nat.le_refl 0) ⟨_, rfl, rfl, hG, h⟩
set_option maxRecDepth 100000 in
set_option maxHeartbeats 4000000 in
theorem lX10_addFeuds_20 {d : Nat} {x1 : Int32} {x2 : Int32} {x3 : Int32} {x4 : Int32} {M : mm_M} {K : Int32 → mm_M → Prop} {y1 : Int32} {y3 : Int32} {y4 : Int32} {y5 : Int32} (hG : mm_G M.2.2) (h : if 56 ≤ y5 then (K 0 M) else (if 7 ≤ (y5 - y5 / 8 * 8) then (jX10_addFeuds_67 d x1 x2 x3 x4 M K y1 y3 y4 y5 (y5 / 8) (y5 - y5 / 8 * 8) 0) else (if (((y1 >>> ((y5 / 8) &&& 31)) &&& (y1 >>> ((y5 - y5 / 8 * 8) &&& 31))) &&& 1) = 0 then (jX10_addFeuds_67 d x1 x2 x3 x4 M K y1 y3 y4 y5 (y5 / 8) (y5 - y5 / 8 * 8) 0) else (jX10_addFeuds_67 d x1 x2 x3 x4 M K y1 y3 y4 y5 (y5 / 8) (y5 - y5 / 8 * 8) 1)))) : jX10_addFeuds_20 d x1 x2 x3 x4 M K y1 y3 y4 y5 := by
  unfold jX10_addFeuds_20
  refine mm_iload (pc := 20) (j := 4) dX10_addFeuds_20 rfl ?_
  refine mm_bipush (pc := 22) (x := 56) dX10_addFeuds_22 rfl ?_
  refine mm_icmp_ge (pc := 24) (tgt := 149) dX10_addFeuds_24 (by decide) (fun hc => ?_) (fun hc => ?_)
  · have h := mm_ift hc h
    refine mm_iconst (pc := 149) (x := 0) dX10_addFeuds_149 rfl ?_
    exact mm_zret (pc := 150) dX10_addFeuds_150 rfl rfl (Nat.le_refl 0) (Nat.le_refl 0) ⟨_, rfl, rfl, hG, h⟩
  · have h := mm_iff hc h
    refine mm_iload (pc := 27) (j := 4) dX10_addFeuds_27 rfl ?_
    refine mm_bipush (pc := 29) (x := 8) dX10_addFeuds_29 rfl ?_
    refine mm_idiv (pc := 31) dX10_addFeuds_31 (by decide) ?_
    refine mm_istore (pc := 32) (lv' := [(6, .int (y5 / 8)), (0, .ref 149), (1, .int y1), (3, .int y3), (4, .int y4), (5, .int y5)]) dX10_addFeuds_32 (by decide) rfl ?_
    refine mm_iload (pc := 34) (j := 5) dX10_addFeuds_34 rfl ?_
    refine mm_bipush (pc := 36) (x := 8) dX10_addFeuds_36 rfl ?_
    refine mm_irem (pc := 38) dX10_addFeuds_38 (by decide) ?_
    refine mm_istore (pc := 39) (lv' := [(7, .int (y5 - y5 / 8 * 8)), (6, .int (y5 / 8)), (0, .ref 149), (1, .int y1), (3, .int y3), (4, .int y4), (5, .int y5)]) dX10_addFeuds_39 (by decide) rfl ?_
    refine mm_iload (pc := 41) (j := 0) dX10_addFeuds_41 rfl ?_
    refine mm_bipush (pc := 43) (x := 7) dX10_addFeuds_43 rfl ?_
    refine mm_icmp_ge (pc := 45) (tgt := 66) dX10_addFeuds_45 (by decide) (fun hc => ?_) (fun hc => ?_)
    · have h := mm_ift hc h
      refine mm_iconst (pc := 66) (x := 0) dX10_addFeuds_66 rfl ?_
      exact mm_sub [2, 3, 4, 5, 6, 1, 0] rfl h
    · have h := mm_iff hc h
      refine mm_iload_n (pc := 48) (j := 3) dX10_addFeuds_48 rfl rfl ?_
      refine mm_iload (pc := 49) (j := 1) dX10_addFeuds_49 rfl ?_
      refine mm_ishr (pc := 51) dX10_addFeuds_51 ?_
      refine mm_iload_n (pc := 52) (j := 3) dX10_addFeuds_52 rfl rfl ?_
      refine mm_iload (pc := 53) (j := 0) dX10_addFeuds_53 rfl ?_
      refine mm_ishr (pc := 55) dX10_addFeuds_55 ?_
      refine mm_iand (pc := 56) dX10_addFeuds_56 ?_
      refine mm_iconst (pc := 57) (x := 1) dX10_addFeuds_57 rfl ?_
      refine mm_iand (pc := 58) dX10_addFeuds_58 ?_
      refine mm_if_eq (pc := 59) (tgt := 66) dX10_addFeuds_59 (by decide) (fun hc => ?_) (fun hc => ?_)
      · have h := mm_ift hc h
        refine mm_iconst (pc := 66) (x := 0) dX10_addFeuds_66 rfl ?_
        exact mm_sub [2, 3, 4, 5, 6, 1, 0] rfl h
      · have h := mm_iff hc h
        refine mm_iconst (pc := 62) (x := 1) dX10_addFeuds_62 rfl ?_
        refine mm_goto (pc := 63) (tgt := 67) dX10_addFeuds_63 (by decide) ?_
        exact mm_sub [2, 3, 4, 5, 6, 1, 0] rfl h
set_option maxRecDepth 100000 in
set_option maxHeartbeats 4000000 in
theorem lX10_addFeuds_67 {d : Nat} {x1 : Int32} {x2 : Int32} {x3 : Int32} {x4 : Int32} {M : mm_M} {K : Int32 → mm_M → Prop} {y1 : Int32} {y3 : Int32} {y4 : Int32} {y5 : Int32} {y6 : Int32} {y7 : Int32} {u0 : Int32} (hG : mm_G M.2.2) (h : if y7 ≤ y6 then (jX10_addFeuds_20 d x1 x2 x3 x4 M K y1 y3 y4 (y5 + 1)) else (if u0 = 0 then (jX10_addFeuds_20 d x1 x2 x3 x4 M K y1 y3 y4 (y5 + 1)) else (vp_in y6 7 ∧ if (((M.1 154 y6.toNatClampNeg) >>> (y7 &&& 31)) &&& 1) = 0 then (mm_CV mX10_toggle d [.ref 149, .int y6, .int y7] M (fun m101 => mm_CI mX10_addFeuds d [.ref 149, .int y1, .int (y5 + 1), .int (y3 + 1), .int y4] m101 (fun z115 m115 => mm_CV mX10_toggle d [.ref 149, .int y6, .int y7] m115 (fun m125 => if z115 = 0 then (jX10_addFeuds_20 d x1 x2 x3 x4 m125 K y1 y3 y4 (y5 + 1)) else (vp_in y3 3 ∧ K 1 (mm_uI m125 151 y3.toNatClampNeg y5)))))) else (jX10_addFeuds_20 d x1 x2 x3 x4 M K y1 y3 y4 (y5 + 1))))) : jX10_addFeuds_67 d x1 x2 x3 x4 M K y1 y3 y4 y5 y6 y7 u0 := by
  unfold jX10_addFeuds_67
  refine mm_istore (pc := 67) (lv' := [(8, .int u0), (0, .ref 149), (1, .int y1), (3, .int y3), (4, .int y4), (5, .int y5), (6, .int y6), (7, .int y7)]) dX10_addFeuds_67 (by decide) rfl ?_
  refine mm_iload (pc := 69) (j := 6) dX10_addFeuds_69 rfl ?_
  refine mm_iload (pc := 71) (j := 7) dX10_addFeuds_71 rfl ?_
  refine mm_icmp_ge (pc := 73) (tgt := 143) dX10_addFeuds_73 (by decide) (fun hc => ?_) (fun hc => ?_)
  · have h := mm_ift hc h
    refine mm_iinc (pc := 143) (j := 5) (v := y5 + 1) (lv' := [(5, .int (y5 + 1)), (8, .int u0), (0, .ref 149), (1, .int y1), (3, .int y3), (4, .int y4), (6, .int y6), (7, .int y7)]) dX10_addFeuds_143 rfl rfl (by decide) rfl ?_
    refine mm_goto (pc := 146) (tgt := 20) dX10_addFeuds_146 (by decide) ?_
    exact mm_sub [2, 3, 4, 5, 0] rfl h
  · have h := mm_iff hc h
    refine mm_iload (pc := 76) (j := 0) dX10_addFeuds_76 rfl ?_
    refine mm_if_eq (pc := 78) (tgt := 143) dX10_addFeuds_78 (by decide) (fun hc => ?_) (fun hc => ?_)
    · have h := mm_ift hc h
      refine mm_iinc (pc := 143) (j := 5) (v := y5 + 1) (lv' := [(5, .int (y5 + 1)), (8, .int u0), (0, .ref 149), (1, .int y1), (3, .int y3), (4, .int y4), (6, .int y6), (7, .int y7)]) dX10_addFeuds_143 rfl rfl (by decide) rfl ?_
      refine mm_goto (pc := 146) (tgt := 20) dX10_addFeuds_146 (by decide) ?_
      exact mm_sub [2, 3, 4, 5, 0] rfl h
    · have h := mm_iff hc h
      refine mm_aload_n (pc := 81) (j := 1) dX10_addFeuds_81 rfl rfl ?_
      refine mm_getR (pc := 82) (ci := 10) (N := 11) (r := 154) dX10_addFeuds_82 fX10_31 sh_149 rfl (g_149_9 hG) ?_
      refine mm_iload (pc := 85) (j := 6) dX10_addFeuds_85 rfl ?_
      obtain ⟨hi87, h⟩ := h
      refine mm_iaload (pc := 87) (N := 7) dX10_addFeuds_87 sh_154 hi87 ?_
      refine mm_iload (pc := 88) (j := 7) dX10_addFeuds_88 rfl ?_
      refine mm_ishr (pc := 90) dX10_addFeuds_90 ?_
      refine mm_iconst (pc := 91) (x := 1) dX10_addFeuds_91 rfl ?_
      refine mm_iand (pc := 92) dX10_addFeuds_92 ?_
      refine mm_if_ne (pc := 93) (tgt := 143) dX10_addFeuds_93 (by decide) (fun hc => ?_) (fun hc => ?_)
      · have h := mm_iff hc h
        refine mm_iinc (pc := 143) (j := 5) (v := y5 + 1) (lv' := [(5, .int (y5 + 1)), (8, .int u0), (0, .ref 149), (1, .int y1), (3, .int y3), (4, .int y4), (6, .int y6), (7, .int y7)]) dX10_addFeuds_143 rfl rfl (by decide) rfl ?_
        refine mm_goto (pc := 146) (tgt := 20) dX10_addFeuds_146 (by decide) ?_
        exact mm_sub [2, 3, 4, 5, 0] rfl h
      · have h := mm_ift hc h
        refine mm_aload_n (pc := 96) (j := 1) dX10_addFeuds_96 rfl rfl ?_
        refine mm_iload (pc := 97) (j := 6) dX10_addFeuds_97 rfl ?_
        refine mm_iload (pc := 99) (j := 7) dX10_addFeuds_99 rfl ?_
        refine mm_kVV (pc := 101) [.int y6, .int y7] dX10_addFeuds_101 kX10_103 rfl sh_149 (Nat.le_of_ble_eq_true rfl) (Nat.le_of_ble_eq_true rfl) h (fun m101 hG h => ?_)
        refine mm_aload_n (pc := 104) (j := 1) dX10_addFeuds_104 rfl rfl ?_
        refine mm_iload_n (pc := 105) (j := 2) dX10_addFeuds_105 rfl rfl ?_
        refine mm_iload (pc := 106) (j := 5) dX10_addFeuds_106 rfl ?_
        refine mm_iconst (pc := 108) (x := 1) dX10_addFeuds_108 rfl ?_
        refine mm_iadd (pc := 109) dX10_addFeuds_109 ?_
        refine mm_iload_n (pc := 110) (j := 3) dX10_addFeuds_110 rfl rfl ?_
        refine mm_iconst (pc := 111) (x := 1) dX10_addFeuds_111 rfl ?_
        refine mm_iadd (pc := 112) dX10_addFeuds_112 ?_
        refine mm_iload (pc := 113) (j := 4) dX10_addFeuds_113 rfl ?_
        refine mm_kVI (pc := 115) [.int y1, .int (y5 + 1), .int (y3 + 1), .int y4] dX10_addFeuds_115 kX10_96 rfl sh_149 (Nat.le_of_ble_eq_true rfl) (Nat.le_of_ble_eq_true rfl) h (fun z115 m115 hG h => ?_)
        refine mm_istore (pc := 118) (lv' := [(9, .int z115), (8, .int u0), (0, .ref 149), (1, .int y1), (3, .int y3), (4, .int y4), (5, .int y5), (6, .int y6), (7, .int y7)]) dX10_addFeuds_118 (by decide) rfl ?_
        refine mm_aload_n (pc := 120) (j := 2) dX10_addFeuds_120 rfl rfl ?_
        refine mm_iload (pc := 121) (j := 7) dX10_addFeuds_121 rfl ?_
        refine mm_iload (pc := 123) (j := 8) dX10_addFeuds_123 rfl ?_
        refine mm_kVV (pc := 125) [.int y6, .int y7] dX10_addFeuds_125 kX10_103 rfl sh_149 (Nat.le_of_ble_eq_true rfl) (Nat.le_of_ble_eq_true rfl) h (fun m125 hG h => ?_)
        refine mm_iload (pc := 128) (j := 0) dX10_addFeuds_128 rfl ?_
        refine mm_if_eq (pc := 130) (tgt := 143) dX10_addFeuds_130 (by decide) (fun hc => ?_) (fun hc => ?_)
        · have h := mm_ift hc h
          refine mm_iinc (pc := 143) (j := 6) (v := y5 + 1) (lv' := [(5, .int (y5 + 1)), (9, .int z115), (8, .int u0), (0, .ref 149), (1, .int y1), (3, .int y3), (4, .int y4), (6, .int y6), (7, .int y7)]) dX10_addFeuds_143 rfl rfl (by decide) rfl ?_
          refine mm_goto (pc := 146) (tgt := 20) dX10_addFeuds_146 (by decide) ?_
          exact mm_sub [3, 4, 5, 6, 0] rfl h
        · have h := mm_iff hc h
          refine mm_aload_n (pc := 133) (j := 2) dX10_addFeuds_133 rfl rfl ?_
          refine mm_getR (pc := 134) (ci := 10) (N := 11) (r := 151) dX10_addFeuds_134 fX10_15 sh_149 rfl (g_149_4 hG) ?_
          refine mm_iload_n (pc := 137) (j := 4) dX10_addFeuds_137 rfl rfl ?_
          refine mm_iload (pc := 138) (j := 6) dX10_addFeuds_138 rfl ?_
          obtain ⟨hi140, h⟩ := h
          refine mm_iastore (pc := 140) (N := 3) dX10_addFeuds_140 sh_151 hi140 ?_
          refine mm_iconst (pc := 141) (x := 1) dX10_addFeuds_141 rfl ?_
          exact mm_zret (pc := 142) dX10_addFeuds_142 rfl rfl (Nat.le_refl 0) (Nat.le_refl 0) ⟨_, rfl, rfl, hG, h⟩
set_option maxRecDepth 100000 in
set_option maxHeartbeats 4000000 in
theorem rX10_toggle {d : Nat} {x1 : Int32} {x2 : Int32} {M : mm_M} {K : mm_M → Prop} (hG : mm_G M.2.2) (h : vp_in x1 7 ∧ vp_in x1 7 ∧ vp_in x2 7 ∧ vp_in x2 7 ∧ K (mm_uI (mm_uI M 154 x1.toNatClampNeg ((M.1 154 x1.toNatClampNeg) ^^^ ((1 : Int32) <<< (x2 &&& 31)))) 154 x2.toNatClampNeg (((mm_uI M 154 x1.toNatClampNeg ((M.1 154 x1.toNatClampNeg) ^^^ ((1 : Int32) <<< (x2 &&& 31)))).1 154 x2.toNatClampNeg) ^^^ ((1 : Int32) <<< (x1 &&& 31))))) : mm_CV mX10_toggle d [.ref 149, .int x1, .int x2] M K := by
  show mm_W mX10_toggle d 0 0 0 [(0, .ref 149), (1, .int x1), (2, .int x2)] [] mm_SH M 0 0 (mm_PV K)
  refine mm_aload_n (pc := 0) (j := 0) dX10_toggle_0 rfl rfl ?_
  refine mm_getR (pc := 1) (ci := 10) (N := 11) (r := 154) dX10_toggle_1 fX10_31 sh_149 rfl (g_149_9 hG) ?_
  refine mm_iload_n (pc := 4) (j := 1) dX10_toggle_4 rfl rfl ?_
  refine mm_dup2 (pc := 5) dX10_toggle_5 rfl rfl ?_
  obtain ⟨hi6, h⟩ := h
  refine mm_iaload (pc := 6) (N := 7) dX10_toggle_6 sh_154 hi6 ?_
  refine mm_iconst (pc := 7) (x := 1) dX10_toggle_7 rfl ?_
  refine mm_iload_n (pc := 8) (j := 2) dX10_toggle_8 rfl rfl ?_
  refine mm_ishl (pc := 9) dX10_toggle_9 ?_
  refine mm_ixor (pc := 10) dX10_toggle_10 ?_
  obtain ⟨hi11, h⟩ := h
  refine mm_iastore (pc := 11) (N := 7) dX10_toggle_11 sh_154 hi11 ?_
  refine mm_aload_n (pc := 12) (j := 0) dX10_toggle_12 rfl rfl ?_
  refine mm_getR (pc := 13) (ci := 10) (N := 11) (r := 154) dX10_toggle_13 fX10_31 sh_149 rfl (g_149_9 hG) ?_
  refine mm_iload_n (pc := 16) (j := 2) dX10_toggle_16 rfl rfl ?_
  refine mm_dup2 (pc := 17) dX10_toggle_17 rfl rfl ?_
  obtain ⟨hi18, h⟩ := h
  refine mm_iaload (pc := 18) (N := 7) dX10_toggle_18 sh_154 hi18 ?_
  refine mm_iconst (pc := 19) (x := 1) dX10_toggle_19 rfl ?_
  refine mm_iload_n (pc := 20) (j := 1) dX10_toggle_20 rfl rfl ?_
  refine mm_ishl (pc := 21) dX10_toggle_21 ?_
  refine mm_ixor (pc := 22) dX10_toggle_22 ?_
  obtain ⟨hi23, h⟩ := h
  refine mm_iastore (pc := 23) (N := 7) dX10_toggle_23 sh_154 hi23 ?_
  exact mm_vret (pc := 24) dX10_toggle_24 rfl (Nat.le_refl 0) (Nat.le_refl 0) ⟨rfl, rfl, hG, h⟩
def jX10_allEat_17 (d : Nat) (x1 : Int32) (M : mm_M) (K : Int32 → mm_M → Prop) (y1 : Int32) (y2 : Int32) : Prop := mm_W mX10_allEat (d + 1) 0 0 17 [(0, .ref 149), (1, .int y1), (2, .int y2)] [] mm_SH M 0 0 (mm_PI K)
def jX10_allEat_44 (d : Nat) (x1 : Int32) (M : mm_M) (K : Int32 → mm_M → Prop) (y1 : Int32) (y2 : Int32) (u0 : Int32) : Prop := mm_W mX10_allEat (d + 1) 0 0 44 [(0, .ref 149), (1, .int y1), (2, .int y2)] [.int u0] mm_SH M 0 0 (mm_PI K)
def jX10_allEat_68 (d : Nat) (x1 : Int32) (M : mm_M) (K : Int32 → mm_M → Prop) (y1 : Int32) (y2 : Int32) (y4 : Int32) (y5 : Int32) : Prop := mm_W mX10_allEat (d + 1) 0 0 68 [(0, .ref 149), (1, .int y1), (2, .int y2), (4, .int y4), (5, .int y5)] [] mm_SH M 0 0 (mm_PI K)
set_option maxRecDepth 100000 in
set_option maxHeartbeats 4000000 in
theorem rX10_allEat {d : Nat} {x1 : Int32} {M : mm_M} {K : Int32 → mm_M → Prop} (hG : mm_G M.2.2) (h : mm_CV mJ7_fill_53178 d [.ref 155, .int 0] M (fun m5 => jX10_allEat_17 d x1 (mm_uI m5 155 (0 : Int32).toNatClampNeg 1) K x1 0)) : mm_CI mX10_allEat (d + 1) [.ref 149, .int x1] M K := by
  show mm_W mX10_allEat (d + 1) 0 0 0 [(0, .ref 149), (1, .int x1)] [] mm_SH M 0 0 (mm_PI K)
  refine mm_aload_n (pc := 0) (j := 0) dX10_allEat_0 rfl rfl ?_
  refine mm_getR (pc := 1) (ci := 10) (N := 11) (r := 155) dX10_allEat_1 fX10_34 sh_149 rfl (g_149_10 hG) ?_
  refine mm_iconst (pc := 4) (x := 0) dX10_allEat_4 rfl ?_
  refine mm_kSV (pc := 5) [.ref 155, .int 0] dX10_allEat_5 kX10_41 rfl (Nat.le_of_ble_eq_true rfl) (Nat.le_of_ble_eq_true rfl) h (fun m5 hG h => ?_)
  refine mm_aload_n (pc := 8) (j := 0) dX10_allEat_8 rfl rfl ?_
  refine mm_getR (pc := 9) (ci := 10) (N := 11) (r := 155) dX10_allEat_9 fX10_34 sh_149 rfl (g_149_10 hG) ?_
  refine mm_iconst (pc := 12) (x := 0) dX10_allEat_12 rfl ?_
  refine mm_iconst (pc := 13) (x := 1) dX10_allEat_13 rfl ?_
  refine mm_iastore (pc := 14) (N := 128) dX10_allEat_14 sh_155 (mm_vin (k := 0) rfl (by decide) (by decide)) ?_
  refine mm_iconst (pc := 15) (x := 0) dX10_allEat_15 rfl ?_
  refine mm_istore_n (pc := 16) (lv' := [(2, .int 0), (0, .ref 149), (1, .int x1)]) dX10_allEat_16 rfl (by decide) rfl ?_
  exact mm_sub [1, 2, 0] rfl h
set_option maxRecDepth 100000 in
set_option maxHeartbeats 4000000 in
theorem lX10_allEat_17 {d : Nat} {x1 : Int32} {M : mm_M} {K : Int32 → mm_M → Prop} {y1 : Int32} {y2 : Int32} (hG : mm_G M.2.2) (h : if 127 ≤ y2 then (if y1 < 0 then (K 0 M) else (if 128 ≤ y1 then (K 0 M) else (vp_in y1 128 ∧ if (M.1 155 y1.toNatClampNeg) = 0 then (K 0 M) else (K 1 M)))) else (vp_in y2 128 ∧ if (M.1 155 y2.toNatClampNeg) = 0 then (jX10_allEat_44 d x1 M K y1 y2 (-1)) else (mm_CI mJ6_bitCount_0f7a4 d [.int y2] M (fun z38 m38 => mm_CI mX10_memberAt d [.int y1, .int z38] m38 (fun z41 m41 => jX10_allEat_44 d x1 m41 K y1 y2 z41))))) : jX10_allEat_17 d x1 M K y1 y2 := by
  unfold jX10_allEat_17
  refine mm_iload_n (pc := 17) (j := 2) dX10_allEat_17 rfl rfl ?_
  refine mm_bipush (pc := 18) (x := 127) dX10_allEat_18 rfl ?_
  refine mm_icmp_ge (pc := 20) (tgt := 109) dX10_allEat_20 (by decide) (fun hc => ?_) (fun hc => ?_)
  · have h := mm_ift hc h
    refine mm_iload_n (pc := 109) (j := 1) dX10_allEat_109 rfl rfl ?_
    refine mm_if_lt (pc := 110) (tgt := 133) dX10_allEat_110 (by decide) (fun hc => ?_) (fun hc => ?_)
    · have h := mm_ift hc h
      refine mm_iconst (pc := 133) (x := 0) dX10_allEat_133 rfl ?_
      exact mm_zret (pc := 134) dX10_allEat_134 rfl rfl (Nat.le_refl 0) (Nat.le_refl 0) ⟨_, rfl, rfl, hG, h⟩
    · have h := mm_iff hc h
      refine mm_iload_n (pc := 113) (j := 1) dX10_allEat_113 rfl rfl ?_
      refine mm_sipush (pc := 114) (x := 128) dX10_allEat_114 rfl ?_
      refine mm_icmp_ge (pc := 117) (tgt := 133) dX10_allEat_117 (by decide) (fun hc => ?_) (fun hc => ?_)
      · have h := mm_ift hc h
        refine mm_iconst (pc := 133) (x := 0) dX10_allEat_133 rfl ?_
        exact mm_zret (pc := 134) dX10_allEat_134 rfl rfl (Nat.le_refl 0) (Nat.le_refl 0) ⟨_, rfl, rfl, hG, h⟩
      · have h := mm_iff hc h
        refine mm_aload_n (pc := 120) (j := 0) dX10_allEat_120 rfl rfl ?_
        refine mm_getR (pc := 121) (ci := 10) (N := 11) (r := 155) dX10_allEat_121 fX10_34 sh_149 rfl (g_149_10 hG) ?_
        refine mm_iload_n (pc := 124) (j := 1) dX10_allEat_124 rfl rfl ?_
        obtain ⟨hi125, h⟩ := h
        refine mm_iaload (pc := 125) (N := 128) dX10_allEat_125 sh_155 hi125 ?_
        refine mm_if_eq (pc := 126) (tgt := 133) dX10_allEat_126 (by decide) (fun hc => ?_) (fun hc => ?_)
        · have h := mm_ift hc h
          refine mm_iconst (pc := 133) (x := 0) dX10_allEat_133 rfl ?_
          exact mm_zret (pc := 134) dX10_allEat_134 rfl rfl (Nat.le_refl 0) (Nat.le_refl 0) ⟨_, rfl, rfl, hG, h⟩
        · have h := mm_iff hc h
          refine mm_iconst (pc := 129) (x := 1) dX10_allEat_129 rfl ?_
          refine mm_goto (pc := 130) (tgt := 134) dX10_allEat_130 (by decide) ?_
          exact mm_zret (pc := 134) dX10_allEat_134 rfl rfl (Nat.le_refl 0) (Nat.le_refl 0) ⟨_, rfl, rfl, hG, h⟩
  · have h := mm_iff hc h
    refine mm_aload_n (pc := 23) (j := 0) dX10_allEat_23 rfl rfl ?_
    refine mm_getR (pc := 24) (ci := 10) (N := 11) (r := 155) dX10_allEat_24 fX10_34 sh_149 rfl (g_149_10 hG) ?_
    refine mm_iload_n (pc := 27) (j := 2) dX10_allEat_27 rfl rfl ?_
    obtain ⟨hi28, h⟩ := h
    refine mm_iaload (pc := 28) (N := 128) dX10_allEat_28 sh_155 hi28 ?_
    refine mm_if_ne (pc := 29) (tgt := 36) dX10_allEat_29 (by decide) (fun hc => ?_) (fun hc => ?_)
    · have h := mm_iff hc h
      refine mm_iload_n (pc := 36) (j := 1) dX10_allEat_36 rfl rfl ?_
      refine mm_iload_n (pc := 37) (j := 2) dX10_allEat_37 rfl rfl ?_
      refine mm_kSI (pc := 38) [.int y2] dX10_allEat_38 kX10_107 rfl (Nat.le_of_ble_eq_true rfl) (Nat.le_of_ble_eq_true rfl) h (fun z38 m38 hG h => ?_)
      refine mm_kSI (pc := 41) [.int y1, .int z38] dX10_allEat_41 kX10_113 rfl (Nat.le_of_ble_eq_true rfl) (Nat.le_of_ble_eq_true rfl) h (fun z41 m41 hG h => ?_)
      exact h
    · have h := mm_ift hc h
      refine mm_iconst (pc := 32) (x := (-1)) dX10_allEat_32 rfl ?_
      refine mm_goto (pc := 33) (tgt := 44) dX10_allEat_33 (by decide) ?_
      exact h
set_option maxRecDepth 100000 in
set_option maxHeartbeats 4000000 in
theorem lX10_allEat_44 {d : Nat} {x1 : Int32} {M : mm_M} {K : Int32 → mm_M → Prop} {y1 : Int32} {y2 : Int32} {u0 : Int32} (hG : mm_G M.2.2) (h : if 0 ≤ u0 then (vp_in u0 7 ∧ jX10_allEat_68 d x1 M K y1 y2 ((M.1 154 u0.toNatClampNeg) &&& (y2 ^^^ (-1))) 0) else (jX10_allEat_68 d x1 M K y1 y2 0 0)) : jX10_allEat_44 d x1 M K y1 y2 u0 := by
  unfold jX10_allEat_44
  refine mm_istore_n (pc := 44) (lv' := [(3, .int u0), (0, .ref 149), (1, .int y1), (2, .int y2)]) dX10_allEat_44 rfl (by decide) rfl ?_
  refine mm_iload_n (pc := 45) (j := 0) dX10_allEat_45 rfl rfl ?_
  refine mm_if_ge (pc := 46) (tgt := 53) dX10_allEat_46 (by decide) (fun hc => ?_) (fun hc => ?_)
  · have h := mm_ift hc h
    refine mm_aload_n (pc := 53) (j := 1) dX10_allEat_53 rfl rfl ?_
    refine mm_getR (pc := 54) (ci := 10) (N := 11) (r := 154) dX10_allEat_54 fX10_31 sh_149 rfl (g_149_9 hG) ?_
    refine mm_iload_n (pc := 57) (j := 0) dX10_allEat_57 rfl rfl ?_
    obtain ⟨hi58, h⟩ := h
    refine mm_iaload (pc := 58) (N := 7) dX10_allEat_58 sh_154 hi58 ?_
    refine mm_iload_n (pc := 59) (j := 3) dX10_allEat_59 rfl rfl ?_
    refine mm_iconst (pc := 60) (x := (-1)) dX10_allEat_60 rfl ?_
    refine mm_ixor (pc := 61) dX10_allEat_61 ?_
    refine mm_iand (pc := 62) dX10_allEat_62 ?_
    refine mm_istore (pc := 63) (lv' := [(4, .int ((M.1 154 u0.toNatClampNeg) &&& (y2 ^^^ (-1)))), (3, .int u0), (0, .ref 149), (1, .int y1), (2, .int y2)]) dX10_allEat_63 (by decide) rfl ?_
    refine mm_iconst (pc := 65) (x := 0) dX10_allEat_65 rfl ?_
    refine mm_istore (pc := 66) (lv' := [(5, .int 0), (4, .int ((M.1 154 u0.toNatClampNeg) &&& (y2 ^^^ (-1)))), (3, .int u0), (0, .ref 149), (1, .int y1), (2, .int y2)]) dX10_allEat_66 (by decide) rfl ?_
    exact mm_sub [3, 4, 5, 1, 0] rfl h
  · have h := mm_iff hc h
    refine mm_iconst (pc := 49) (x := 0) dX10_allEat_49 rfl ?_
    refine mm_goto (pc := 50) (tgt := 63) dX10_allEat_50 (by decide) ?_
    refine mm_istore (pc := 63) (lv' := [(4, .int 0), (3, .int u0), (0, .ref 149), (1, .int y1), (2, .int y2)]) dX10_allEat_63 (by decide) rfl ?_
    refine mm_iconst (pc := 65) (x := 0) dX10_allEat_65 rfl ?_
    refine mm_istore (pc := 66) (lv' := [(5, .int 0), (4, .int 0), (3, .int u0), (0, .ref 149), (1, .int y1), (2, .int y2)]) dX10_allEat_66 (by decide) rfl ?_
    exact mm_sub [3, 4, 5, 1, 0] rfl h
set_option maxRecDepth 100000 in
set_option maxHeartbeats 4000000 in
theorem lX10_allEat_68 {d : Nat} {x1 : Int32} {M : mm_M} {K : Int32 → mm_M → Prop} {y1 : Int32} {y2 : Int32} {y4 : Int32} {y5 : Int32} (hG : mm_G M.2.2) (h : if 7 ≤ y5 then (jX10_allEat_17 d x1 M K y1 (y2 + 1)) else (if ((y4 >>> (y5 &&& 31)) &&& 1) = 0 then (jX10_allEat_68 d x1 M K y1 y2 y4 (y5 + 1)) else (vp_in (y2 ||| ((1 : Int32) <<< (y5 &&& 31))) 128 ∧ jX10_allEat_68 d x1 (mm_uI M 155 (y2 ||| ((1 : Int32) <<< (y5 &&& 31))).toNatClampNeg 1) K y1 y2 y4 (y5 + 1)))) : jX10_allEat_68 d x1 M K y1 y2 y4 y5 := by
  unfold jX10_allEat_68
  refine mm_iload (pc := 68) (j := 4) dX10_allEat_68 rfl ?_
  refine mm_bipush (pc := 70) (x := 7) dX10_allEat_70 rfl ?_
  refine mm_icmp_ge (pc := 72) (tgt := 103) dX10_allEat_72 (by decide) (fun hc => ?_) (fun hc => ?_)
  · have h := mm_ift hc h
    refine mm_iinc (pc := 103) (j := 2) (v := y2 + 1) (lv' := [(2, .int (y2 + 1)), (0, .ref 149), (1, .int y1), (4, .int y4), (5, .int y5)]) dX10_allEat_103 rfl rfl (by decide) rfl ?_
    refine mm_goto (pc := 106) (tgt := 17) dX10_allEat_106 (by decide) ?_
    exact mm_sub [1, 2, 0] rfl h
  · have h := mm_iff hc h
    refine mm_iload (pc := 75) (j := 3) dX10_allEat_75 rfl ?_
    refine mm_iload (pc := 77) (j := 4) dX10_allEat_77 rfl ?_
    refine mm_ishr (pc := 79) dX10_allEat_79 ?_
    refine mm_iconst (pc := 80) (x := 1) dX10_allEat_80 rfl ?_
    refine mm_iand (pc := 81) dX10_allEat_81 ?_
    refine mm_if_eq (pc := 82) (tgt := 97) dX10_allEat_82 (by decide) (fun hc => ?_) (fun hc => ?_)
    · have h := mm_ift hc h
      refine mm_iinc (pc := 97) (j := 4) (v := y5 + 1) (lv' := [(5, .int (y5 + 1)), (0, .ref 149), (1, .int y1), (2, .int y2), (4, .int y4)]) dX10_allEat_97 rfl rfl (by decide) rfl ?_
      refine mm_goto (pc := 100) (tgt := 68) dX10_allEat_100 (by decide) ?_
      exact mm_sub [1, 2, 3, 4, 0] rfl h
    · have h := mm_iff hc h
      refine mm_aload_n (pc := 85) (j := 0) dX10_allEat_85 rfl rfl ?_
      refine mm_getR (pc := 86) (ci := 10) (N := 11) (r := 155) dX10_allEat_86 fX10_34 sh_149 rfl (g_149_10 hG) ?_
      refine mm_iload_n (pc := 89) (j := 2) dX10_allEat_89 rfl rfl ?_
      refine mm_iconst (pc := 90) (x := 1) dX10_allEat_90 rfl ?_
      refine mm_iload (pc := 91) (j := 4) dX10_allEat_91 rfl ?_
      refine mm_ishl (pc := 93) dX10_allEat_93 ?_
      refine mm_ior (pc := 94) dX10_allEat_94 ?_
      refine mm_iconst (pc := 95) (x := 1) dX10_allEat_95 rfl ?_
      obtain ⟨hi96, h⟩ := h
      refine mm_iastore (pc := 96) (N := 128) dX10_allEat_96 sh_155 hi96 ?_
      refine mm_iinc (pc := 97) (j := 4) (v := y5 + 1) (lv' := [(5, .int (y5 + 1)), (0, .ref 149), (1, .int y1), (2, .int y2), (4, .int y4)]) dX10_allEat_97 rfl rfl (by decide) rfl ?_
      refine mm_goto (pc := 100) (tgt := 68) dX10_allEat_100 (by decide) ?_
      exact mm_sub [1, 2, 3, 4, 0] rfl h
def jX10_memberAt_4 (d : Nat) (x0 : Int32) (x1 : Int32) (M : mm_M) (K : Int32 → mm_M → Prop) (y0 : Int32) (y2 : Int32) (y3 : Int32) : Prop := mm_W mX10_memberAt d 0 0 4 [(0, .int y0), (2, .int y2), (3, .int y3)] [] mm_SH M 0 0 (mm_PI K)
set_option maxRecDepth 100000 in
set_option maxHeartbeats 4000000 in
theorem rX10_memberAt {d : Nat} {x0 : Int32} {x1 : Int32} {M : mm_M} {K : Int32 → mm_M → Prop} (hG : mm_G M.2.2) (h : jX10_memberAt_4 d x0 x1 M K x0 x1 0) : mm_CI mX10_memberAt d [.int x0, .int x1] M K := by
  show mm_W mX10_memberAt d 0 0 0 [(0, .int x0), (1, .int x1)] [] mm_SH M 0 0 (mm_PI K)
  refine mm_iload_n (pc := 0) (j := 1) dX10_memberAt_0 rfl rfl ?_
  refine mm_istore_n (pc := 1) (lv' := [(2, .int x1), (0, .int x0), (1, .int x1)]) dX10_memberAt_1 rfl (by decide) rfl ?_
  refine mm_iconst (pc := 2) (x := 0) dX10_memberAt_2 rfl ?_
  refine mm_istore_n (pc := 3) (lv' := [(3, .int 0), (2, .int x1), (0, .int x0), (1, .int x1)]) dX10_memberAt_3 rfl (by decide) rfl ?_
  exact mm_sub [2, 1, 0] rfl h
set_option maxRecDepth 100000 in
set_option maxHeartbeats 4000000 in
theorem lX10_memberAt_4 {d : Nat} {x0 : Int32} {x1 : Int32} {M : mm_M} {K : Int32 → mm_M → Prop} {y0 : Int32} {y2 : Int32} {y3 : Int32} (hG : mm_G M.2.2) (h : if 7 ≤ y3 then (K (-1) M) else (if ((y0 >>> (y3 &&& 31)) &&& 1) = 0 then (jX10_memberAt_4 d x0 x1 M K y0 y2 (y3 + 1)) else (if y2 = 0 then (K y3 M) else (jX10_memberAt_4 d x0 x1 M K y0 (y2 + (-1)) (y3 + 1))))) : jX10_memberAt_4 d x0 x1 M K y0 y2 y3 := by
  unfold jX10_memberAt_4
  refine mm_iload_n (pc := 4) (j := 2) dX10_memberAt_4 rfl rfl ?_
  refine mm_bipush (pc := 5) (x := 7) dX10_memberAt_5 rfl ?_
  refine mm_icmp_ge (pc := 7) (tgt := 33) dX10_memberAt_7 (by decide) (fun hc => ?_) (fun hc => ?_)
  · have h := mm_ift hc h
    refine mm_iconst (pc := 33) (x := (-1)) dX10_memberAt_33 rfl ?_
    exact mm_iret (pc := 34) dX10_memberAt_34 rfl (Nat.le_refl 0) (Nat.le_refl 0) ⟨_, rfl, rfl, hG, h⟩
  · have h := mm_iff hc h
    refine mm_iload_n (pc := 10) (j := 0) dX10_memberAt_10 rfl rfl ?_
    refine mm_iload_n (pc := 11) (j := 2) dX10_memberAt_11 rfl rfl ?_
    refine mm_ishr (pc := 12) dX10_memberAt_12 ?_
    refine mm_iconst (pc := 13) (x := 1) dX10_memberAt_13 rfl ?_
    refine mm_iand (pc := 14) dX10_memberAt_14 ?_
    refine mm_if_eq (pc := 15) (tgt := 27) dX10_memberAt_15 (by decide) (fun hc => ?_) (fun hc => ?_)
    · have h := mm_ift hc h
      refine mm_iinc (pc := 27) (j := 2) (v := y3 + 1) (lv' := [(3, .int (y3 + 1)), (0, .int y0), (2, .int y2)]) dX10_memberAt_27 rfl rfl (by decide) rfl ?_
      refine mm_goto (pc := 30) (tgt := 4) dX10_memberAt_30 (by decide) ?_
      exact mm_sub [1, 2, 0] rfl h
    · have h := mm_iff hc h
      refine mm_iload_n (pc := 18) (j := 1) dX10_memberAt_18 rfl rfl ?_
      refine mm_if_ne (pc := 19) (tgt := 24) dX10_memberAt_19 (by decide) (fun hc => ?_) (fun hc => ?_)
      · have h := mm_iff hc h
        refine mm_iinc (pc := 24) (j := 1) (v := y2 + (-1)) (lv' := [(2, .int (y2 + (-1))), (0, .int y0), (3, .int y3)]) dX10_memberAt_24 rfl rfl (by decide) rfl ?_
        refine mm_iinc (pc := 27) (j := 2) (v := y3 + 1) (lv' := [(3, .int (y3 + 1)), (2, .int (y2 + (-1))), (0, .int y0)]) dX10_memberAt_27 rfl rfl (by decide) rfl ?_
        refine mm_goto (pc := 30) (tgt := 4) dX10_memberAt_30 (by decide) ?_
        exact mm_sub [2, 1, 0] rfl h
      · have h := mm_ift hc h
        refine mm_iload_n (pc := 22) (j := 2) dX10_memberAt_22 rfl rfl ?_
        exact mm_iret (pc := 23) dX10_memberAt_23 rfl (Nat.le_refl 0) (Nat.le_refl 0) ⟨_, rfl, rfl, hG, h⟩
