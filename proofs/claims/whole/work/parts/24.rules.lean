def jX0_read_69 (d : Nat) (r1 : Nat) (n1 : Nat) (x2 : Int32) (M : mm_M) (K : mm_M → Prop) : Prop := mm_W mX0_read (d + 1) 0 0 69 [(0, .ref 16)] [] mm_SH M 0 0 (mm_PV K)
def jX0_read_113 (d : Nat) (r1 : Nat) (n1 : Nat) (x2 : Int32) (M : mm_M) (K : mm_M → Prop) : Prop := mm_W mX0_read (d + 1) 0 0 113 [(0, .ref 16)] [] mm_SH M 0 0 (mm_PV K)
set_option maxRecDepth 100000 in
set_option maxHeartbeats 4000000 in
theorem rX0_read {d : Nat} {r1 : Nat} {n1 : Nat} {x2 : Int32} {M : mm_M} {K : mm_M → Prop} (hr1 : mm_SH[r1]? = some (0, n1)) (hG : mm_G M.2.2) (h : mm_CV mX6_begin d [.ref 17, .ref r1, .int x2, .ref 20, .int 0] (mm_uI (mm_uI M 17 12 1) 17 11 221196) (fun m28 => if ((mm_uI m28 16 2 (m28.1 17 5)).1 16 2) = 24 then (jX0_read_69 d r1 n1 x2 (mm_uI m28 16 2 (m28.1 17 5)) K) else (if ((mm_uI m28 16 2 (m28.1 17 5)).1 16 2) = 25 then (jX0_read_69 d r1 n1 x2 (mm_uI m28 16 2 (m28.1 17 5)) K) else (if ((mm_uI m28 16 2 (m28.1 17 5)).1 16 2) = 26 then (jX0_read_69 d r1 n1 x2 (mm_uI m28 16 2 (m28.1 17 5)) K) else (if ((mm_uI m28 16 2 (m28.1 17 5)).1 16 2) = 27 then (jX0_read_113 d r1 n1 x2 (mm_uI m28 16 2 (m28.1 17 5)) K) else (if ((mm_uI m28 16 2 (m28.1 17 5)).1 16 2) = 28 then (jX0_read_113 d r1 n1 x2 (mm_uI m28 16 2 (m28.1 17 5)) K) else (if ((mm_uI m28 16 2 (m28.1 17 5)).1 16 2) = 29 then (jX0_read_113 d r1 n1 x2 (mm_uI m28 16 2 (m28.1 17 5)) K) else (mm_CV mX6_refuse d [.ref 17, .int 1, .int ((mm_uI m28 16 2 (m28.1 17 5)).1 17 4)] (mm_uI m28 16 2 (m28.1 17 5)) (fun m142 => if (m142.1 17 3) = 0 then (K m142) else (mm_CV mX6_refuse d [.ref 17, .int 1, .int (m142.1 17 4)] m142 (fun m167 => K m167))))))))))) : mm_CV mX0_read (d + 1) [.ref 16, .ref r1, .int x2] M K := by
  show mm_W mX0_read (d + 1) 0 0 0 [(0, .ref 16), (1, .ref r1), (2, .int x2)] [] mm_SH M 0 0 (mm_PV K)
  refine mm_aload_n (pc := 0) (j := 0) dX0_read_0 rfl rfl ?_
  refine mm_getR (pc := 1) (ci := 0) (N := 3) (r := 17) dX0_read_1 fX0_14 sh_16 rfl (g_16_0 hG) ?_
  refine mm_iconst (pc := 4) (x := 1) dX0_read_4 rfl ?_
  refine mm_putI (pc := 5) (ci := 6) (N := 15) dX0_read_5 fX0_26 sh_17 (by decide +kernel) rfl rfl rfl ?_
  refine mm_aload_n (pc := 8) (j := 0) dX0_read_8 rfl rfl ?_
  refine mm_getR (pc := 9) (ci := 0) (N := 3) (r := 17) dX0_read_9 fX0_14 sh_16 rfl (g_16_0 hG) ?_
  refine mm_ldc (pc := 12) (x := 221196) dX0_read_12 cX0_30 ?_
  refine mm_putI (pc := 14) (ci := 6) (N := 15) dX0_read_14 fX0_31 sh_17 (by decide +kernel) rfl rfl rfl ?_
  refine mm_aload_n (pc := 17) (j := 0) dX0_read_17 rfl rfl ?_
  refine mm_getR (pc := 18) (ci := 0) (N := 3) (r := 17) dX0_read_18 fX0_14 sh_16 rfl (g_16_0 hG) ?_
  refine mm_aload_n (pc := 21) (j := 1) dX0_read_21 rfl rfl ?_
  refine mm_iload_n (pc := 22) (j := 2) dX0_read_22 rfl rfl ?_
  refine mm_aload_n (pc := 23) (j := 0) dX0_read_23 rfl rfl ?_
  refine mm_getR (pc := 24) (ci := 0) (N := 3) (r := 20) dX0_read_24 fX0_22 sh_16 rfl (g_16_1 hG) ?_
  refine mm_iconst (pc := 27) (x := 0) dX0_read_27 rfl ?_
  refine mm_kVV (pc := 28) [.ref r1, .int x2, .ref 20, .int 0] dX0_read_28 kX0_35 rfl sh_17 (Nat.le_of_ble_eq_true rfl) (Nat.le_of_ble_eq_true rfl) h (fun m28 hG h => ?_)
  refine mm_aload_n (pc := 31) (j := 0) dX0_read_31 rfl rfl ?_
  refine mm_aload_n (pc := 32) (j := 0) dX0_read_32 rfl rfl ?_
  refine mm_getR (pc := 33) (ci := 0) (N := 3) (r := 17) dX0_read_33 fX0_14 sh_16 rfl (g_16_0 hG) ?_
  refine mm_getI (pc := 36) (ci := 6) (N := 15) dX0_read_36 fX0_39 sh_17 rfl ?_
  refine mm_putI (pc := 39) (ci := 0) (N := 3) dX0_read_39 fX0_42 sh_16 (by decide +kernel) rfl rfl rfl ?_
  refine mm_aload_n (pc := 42) (j := 0) dX0_read_42 rfl rfl ?_
  refine mm_getI (pc := 43) (ci := 0) (N := 3) dX0_read_43 fX0_42 sh_16 rfl ?_
  refine mm_bipush (pc := 46) (x := 24) dX0_read_46 rfl ?_
  refine mm_icmp_eq (pc := 48) (tgt := 69) dX0_read_48 (by decide) (fun hc => ?_) (fun hc => ?_)
  · have h := mm_ift hc h
    exact mm_sub [0] rfl h
  · have h := mm_iff hc h
    refine mm_aload_n (pc := 51) (j := 0) dX0_read_51 rfl rfl ?_
    refine mm_getI (pc := 52) (ci := 0) (N := 3) dX0_read_52 fX0_42 sh_16 rfl ?_
    refine mm_bipush (pc := 55) (x := 25) dX0_read_55 rfl ?_
    refine mm_icmp_eq (pc := 57) (tgt := 69) dX0_read_57 (by decide) (fun hc => ?_) (fun hc => ?_)
    · have h := mm_ift hc h
      exact mm_sub [0] rfl h
    · have h := mm_iff hc h
      refine mm_aload_n (pc := 60) (j := 0) dX0_read_60 rfl rfl ?_
      refine mm_getI (pc := 61) (ci := 0) (N := 3) dX0_read_61 fX0_42 sh_16 rfl ?_
      refine mm_bipush (pc := 64) (x := 26) dX0_read_64 rfl ?_
      refine mm_icmp_ne (pc := 66) (tgt := 86) dX0_read_66 (by decide) (fun hc => ?_) (fun hc => ?_)
      · have h := mm_iff hc h
        refine mm_aload_n (pc := 86) (j := 0) dX0_read_86 rfl rfl ?_
        refine mm_getI (pc := 87) (ci := 0) (N := 3) dX0_read_87 fX0_42 sh_16 rfl ?_
        refine mm_bipush (pc := 90) (x := 27) dX0_read_90 rfl ?_
        refine mm_icmp_eq (pc := 92) (tgt := 113) dX0_read_92 (by decide) (fun hc => ?_) (fun hc => ?_)
        · have h := mm_ift hc h
          exact mm_sub [0] rfl h
        · have h := mm_iff hc h
          refine mm_aload_n (pc := 95) (j := 0) dX0_read_95 rfl rfl ?_
          refine mm_getI (pc := 96) (ci := 0) (N := 3) dX0_read_96 fX0_42 sh_16 rfl ?_
          refine mm_bipush (pc := 99) (x := 28) dX0_read_99 rfl ?_
          refine mm_icmp_eq (pc := 101) (tgt := 113) dX0_read_101 (by decide) (fun hc => ?_) (fun hc => ?_)
          · have h := mm_ift hc h
            exact mm_sub [0] rfl h
          · have h := mm_iff hc h
            refine mm_aload_n (pc := 104) (j := 0) dX0_read_104 rfl rfl ?_
            refine mm_getI (pc := 105) (ci := 0) (N := 3) dX0_read_105 fX0_42 sh_16 rfl ?_
            refine mm_bipush (pc := 108) (x := 29) dX0_read_108 rfl ?_
            refine mm_icmp_ne (pc := 110) (tgt := 130) dX0_read_110 (by decide) (fun hc => ?_) (fun hc => ?_)
            · have h := mm_iff hc h
              refine mm_aload_n (pc := 130) (j := 0) dX0_read_130 rfl rfl ?_
              refine mm_getR (pc := 131) (ci := 0) (N := 3) (r := 17) dX0_read_131 fX0_14 sh_16 rfl (g_16_0 hG) ?_
              refine mm_iconst (pc := 134) (x := 1) dX0_read_134 rfl ?_
              refine mm_aload_n (pc := 135) (j := 0) dX0_read_135 rfl rfl ?_
              refine mm_getR (pc := 136) (ci := 0) (N := 3) (r := 17) dX0_read_136 fX0_14 sh_16 rfl (g_16_0 hG) ?_
              refine mm_getI (pc := 139) (ci := 6) (N := 15) dX0_read_139 fX0_54 sh_17 rfl ?_
              refine mm_kVV (pc := 142) [.int 1, .int ((mm_uI m28 16 2 (m28.1 17 5)).1 17 4)] dX0_read_142 kX0_57 rfl sh_17 (Nat.le_of_ble_eq_true rfl) (Nat.le_of_ble_eq_true rfl) h (fun m142 hG h => ?_)
              refine mm_aload_n (pc := 145) (j := 0) dX0_read_145 rfl rfl ?_
              refine mm_getR (pc := 146) (ci := 0) (N := 3) (r := 17) dX0_read_146 fX0_14 sh_16 rfl (g_16_0 hG) ?_
              refine mm_getI (pc := 149) (ci := 6) (N := 15) dX0_read_149 fX0_61 sh_17 rfl ?_
              refine mm_if_eq (pc := 152) (tgt := 170) dX0_read_152 (by decide) (fun hc => ?_) (fun hc => ?_)
              · have h := mm_ift hc h
                exact mm_vret (pc := 170) dX0_read_170 rfl (Nat.le_refl 0) (Nat.le_refl 0) ⟨rfl, rfl, hG, h⟩
              · have h := mm_iff hc h
                refine mm_aload_n (pc := 155) (j := 0) dX0_read_155 rfl rfl ?_
                refine mm_getR (pc := 156) (ci := 0) (N := 3) (r := 17) dX0_read_156 fX0_14 sh_16 rfl (g_16_0 hG) ?_
                refine mm_iconst (pc := 159) (x := 1) dX0_read_159 rfl ?_
                refine mm_aload_n (pc := 160) (j := 0) dX0_read_160 rfl rfl ?_
                refine mm_getR (pc := 161) (ci := 0) (N := 3) (r := 17) dX0_read_161 fX0_14 sh_16 rfl (g_16_0 hG) ?_
                refine mm_getI (pc := 164) (ci := 6) (N := 15) dX0_read_164 fX0_54 sh_17 rfl ?_
                refine mm_kVV (pc := 167) [.int 1, .int (m142.1 17 4)] dX0_read_167 kX0_57 rfl sh_17 (Nat.le_of_ble_eq_true rfl) (Nat.le_of_ble_eq_true rfl) h (fun m167 hG h => ?_)
                exact mm_vret (pc := 170) dX0_read_170 rfl (Nat.le_refl 0) (Nat.le_refl 0) ⟨rfl, rfl, hG, h⟩
            · have h := mm_ift hc h
              exact mm_sub [0] rfl h
      · have h := mm_ift hc h
        exact mm_sub [0] rfl h
set_option maxRecDepth 100000 in
set_option maxHeartbeats 4000000 in
theorem lX0_read_69 {d : Nat} {r1 : Nat} {n1 : Nat} {x2 : Int32} {M : mm_M} {K : mm_M → Prop} (hr1 : mm_SH[r1]? = some (0, n1)) (hG : mm_G M.2.2) (h : mm_CV mX6_next d [.ref 17] M (fun m73 => mm_CV mX6_test d [.ref 17] m73 (fun m80 => if (m80.1 17 3) = 0 then (K m80) else (mm_CV mX6_refuse d [.ref 17, .int 1, .int (m80.1 17 4)] m80 (fun m167 => K m167))))) : jX0_read_69 d r1 n1 x2 M K  := by
  unfold jX0_read_69
  refine mm_aload_n (pc := 69) (j := 0) dX0_read_69 rfl rfl ?_
  refine mm_getR (pc := 70) (ci := 0) (N := 3) (r := 17) dX0_read_70 fX0_14 sh_16 rfl (g_16_0 hG) ?_
  refine mm_kVV (pc := 73) [] dX0_read_73 kX0_45 rfl sh_17 (Nat.le_of_ble_eq_true rfl) (Nat.le_of_ble_eq_true rfl) h (fun m73 hG h => ?_)
  refine mm_aload_n (pc := 76) (j := 0) dX0_read_76 rfl rfl ?_
  refine mm_getR (pc := 77) (ci := 0) (N := 3) (r := 17) dX0_read_77 fX0_14 sh_16 rfl (g_16_0 hG) ?_
  refine mm_kNV (pc := 80) [] dX0_read_80 kX0_48 rfl sh_17 (Nat.le_of_ble_eq_true rfl) (Nat.le_of_ble_eq_true rfl) h (fun m80 hG h => ?_)
  refine mm_goto (pc := 83) (tgt := 145) dX0_read_83 (by decide) ?_
  refine mm_aload_n (pc := 145) (j := 0) dX0_read_145 rfl rfl ?_
  refine mm_getR (pc := 146) (ci := 0) (N := 3) (r := 17) dX0_read_146 fX0_14 sh_16 rfl (g_16_0 hG) ?_
  refine mm_getI (pc := 149) (ci := 6) (N := 15) dX0_read_149 fX0_61 sh_17 rfl ?_
  refine mm_if_eq (pc := 152) (tgt := 170) dX0_read_152 (by decide) (fun hc => ?_) (fun hc => ?_)
  · have h := mm_ift hc h
    exact mm_vret (pc := 170) dX0_read_170 rfl (Nat.le_refl 0) (Nat.le_refl 0) ⟨rfl, rfl, hG, h⟩
  · have h := mm_iff hc h
    refine mm_aload_n (pc := 155) (j := 0) dX0_read_155 rfl rfl ?_
    refine mm_getR (pc := 156) (ci := 0) (N := 3) (r := 17) dX0_read_156 fX0_14 sh_16 rfl (g_16_0 hG) ?_
    refine mm_iconst (pc := 159) (x := 1) dX0_read_159 rfl ?_
    refine mm_aload_n (pc := 160) (j := 0) dX0_read_160 rfl rfl ?_
    refine mm_getR (pc := 161) (ci := 0) (N := 3) (r := 17) dX0_read_161 fX0_14 sh_16 rfl (g_16_0 hG) ?_
    refine mm_getI (pc := 164) (ci := 6) (N := 15) dX0_read_164 fX0_54 sh_17 rfl ?_
    refine mm_kVV (pc := 167) [.int 1, .int (m80.1 17 4)] dX0_read_167 kX0_57 rfl sh_17 (Nat.le_of_ble_eq_true rfl) (Nat.le_of_ble_eq_true rfl) h (fun m167 hG h => ?_)
    exact mm_vret (pc := 170) dX0_read_170 rfl (Nat.le_refl 0) (Nat.le_refl 0) ⟨rfl, rfl, hG, h⟩
set_option maxRecDepth 100000 in
set_option maxHeartbeats 4000000 in
theorem lX0_read_113 {d : Nat} {r1 : Nat} {n1 : Nat} {x2 : Int32} {M : mm_M} {K : mm_M → Prop} (hr1 : mm_SH[r1]? = some (0, n1)) (hG : mm_G M.2.2) (h : mm_CV mX6_next d [.ref 17] M (fun m117 => mm_CV mX6_sum d [.ref 17] m117 (fun m124 => if (m124.1 17 3) = 0 then (K m124) else (mm_CV mX6_refuse d [.ref 17, .int 1, .int (m124.1 17 4)] m124 (fun m167 => K m167))))) : jX0_read_113 d r1 n1 x2 M K  := by
  unfold jX0_read_113
  refine mm_aload_n (pc := 113) (j := 0) dX0_read_113 rfl rfl ?_
  refine mm_getR (pc := 114) (ci := 0) (N := 3) (r := 17) dX0_read_114 fX0_14 sh_16 rfl (g_16_0 hG) ?_
  refine mm_kVV (pc := 117) [] dX0_read_117 kX0_45 rfl sh_17 (Nat.le_of_ble_eq_true rfl) (Nat.le_of_ble_eq_true rfl) h (fun m117 hG h => ?_)
  refine mm_aload_n (pc := 120) (j := 0) dX0_read_120 rfl rfl ?_
  refine mm_getR (pc := 121) (ci := 0) (N := 3) (r := 17) dX0_read_121 fX0_14 sh_16 rfl (g_16_0 hG) ?_
  refine mm_kNV (pc := 124) [] dX0_read_124 kX0_51 rfl sh_17 (Nat.le_of_ble_eq_true rfl) (Nat.le_of_ble_eq_true rfl) h (fun m124 hG h => ?_)
  refine mm_goto (pc := 127) (tgt := 145) dX0_read_127 (by decide) ?_
  refine mm_aload_n (pc := 145) (j := 0) dX0_read_145 rfl rfl ?_
  refine mm_getR (pc := 146) (ci := 0) (N := 3) (r := 17) dX0_read_146 fX0_14 sh_16 rfl (g_16_0 hG) ?_
  refine mm_getI (pc := 149) (ci := 6) (N := 15) dX0_read_149 fX0_61 sh_17 rfl ?_
  refine mm_if_eq (pc := 152) (tgt := 170) dX0_read_152 (by decide) (fun hc => ?_) (fun hc => ?_)
  · have h := mm_ift hc h
    exact mm_vret (pc := 170) dX0_read_170 rfl (Nat.le_refl 0) (Nat.le_refl 0) ⟨rfl, rfl, hG, h⟩
  · have h := mm_iff hc h
    refine mm_aload_n (pc := 155) (j := 0) dX0_read_155 rfl rfl ?_
    refine mm_getR (pc := 156) (ci := 0) (N := 3) (r := 17) dX0_read_156 fX0_14 sh_16 rfl (g_16_0 hG) ?_
    refine mm_iconst (pc := 159) (x := 1) dX0_read_159 rfl ?_
    refine mm_aload_n (pc := 160) (j := 0) dX0_read_160 rfl rfl ?_
    refine mm_getR (pc := 161) (ci := 0) (N := 3) (r := 17) dX0_read_161 fX0_14 sh_16 rfl (g_16_0 hG) ?_
    refine mm_getI (pc := 164) (ci := 6) (N := 15) dX0_read_164 fX0_54 sh_17 rfl ?_
    refine mm_kVV (pc := 167) [.int 1, .int (m124.1 17 4)] dX0_read_167 kX0_57 rfl sh_17 (Nat.le_of_ble_eq_true rfl) (Nat.le_of_ble_eq_true rfl) h (fun m167 hG h => ?_)
    exact mm_vret (pc := 170) dX0_read_170 rfl (Nat.le_refl 0) (Nat.le_refl 0) ⟨rfl, rfl, hG, h⟩
def jX0_answer_23 (d : Nat) (a2 : Nat) (M : mm_M) (K : Int64 → mm_M → Prop) (u0 : Int32) : Prop := mm_W mX0_answer (d + 1) 0 0 23 [(0, .ref 16), (1, .ref 21), (2, .ref a2)] [.int u0] mm_SH M 0 0 (mm_PL K)
def jX0_answer_43 (d : Nat) (a2 : Nat) (M : mm_M) (K : Int64 → mm_M → Prop) (y4 : Int64) (y6 : Int32) (y7 : Int32) : Prop := mm_W mX0_answer (d + 1) 0 0 43 [(0, .ref 16), (1, .ref 21), (2, .ref a2), (4, .long y4), (6, .int y6), (7, .int y7)] [] mm_SH M 0 0 (mm_PL K)
set_option maxRecDepth 100000 in
set_option maxHeartbeats 4000000 in
theorem rX0_answer {d : Nat} {a2 : Nat} {M : mm_M} {K : Int64 → mm_M → Prop} (ha2 : a2 ∈ mm_Sts) (hG : mm_G M.2.2) (h : if (M.1 16 2) = 24 then (jX0_answer_23 d a2 M K 1) else (if (M.1 16 2) = 25 then (jX0_answer_23 d a2 M K 1) else (jX0_answer_23 d a2 M K 0))) : mm_CL mX0_answer (d + 1) [.ref 16, .ref 21, .ref a2] M K := by
  show mm_W mX0_answer (d + 1) 0 0 0 [(0, .ref 16), (1, .ref 21), (2, .ref a2)] [] mm_SH M 0 0 (mm_PL K)
  refine mm_aload_n (pc := 0) (j := 0) dX0_answer_0 rfl rfl ?_
  refine mm_getI (pc := 1) (ci := 0) (N := 3) dX0_answer_1 fX0_42 sh_16 rfl ?_
  refine mm_bipush (pc := 4) (x := 24) dX0_answer_4 rfl ?_
  refine mm_icmp_eq (pc := 6) (tgt := 18) dX0_answer_6 (by decide) (fun hc => ?_) (fun hc => ?_)
  · have h := mm_ift hc h
    refine mm_iconst (pc := 18) (x := 1) dX0_answer_18 rfl ?_
    refine mm_goto (pc := 19) (tgt := 23) dX0_answer_19 (by decide) ?_
    exact h
  · have h := mm_iff hc h
    refine mm_aload_n (pc := 9) (j := 0) dX0_answer_9 rfl rfl ?_
    refine mm_getI (pc := 10) (ci := 0) (N := 3) dX0_answer_10 fX0_42 sh_16 rfl ?_
    refine mm_bipush (pc := 13) (x := 25) dX0_answer_13 rfl ?_
    refine mm_icmp_ne (pc := 15) (tgt := 22) dX0_answer_15 (by decide) (fun hc => ?_) (fun hc => ?_)
    · have h := mm_iff hc h
      refine mm_iconst (pc := 22) (x := 0) dX0_answer_22 rfl ?_
      exact h
    · have h := mm_ift hc h
      refine mm_iconst (pc := 18) (x := 1) dX0_answer_18 rfl ?_
      refine mm_goto (pc := 19) (tgt := 23) dX0_answer_19 (by decide) ?_
      exact h
set_option maxRecDepth 100000 in
set_option maxHeartbeats 4000000 in
theorem lX0_answer_23 {d : Nat} {a2 : Nat} {M : mm_M} {K : Int64 → mm_M → Prop} {u0 : Int32} (ha2 : a2 ∈ mm_Sts) (hG : mm_G M.2.2) (h : if u0 = 0 then (jX0_answer_43 d a2 M K 0 0 0) else (jX0_answer_43 d a2 M K (-1) 0 0)) : jX0_answer_23 d a2 M K u0 := by
  unfold jX0_answer_23
  refine mm_istore_n (pc := 23) (lv' := [(3, .int u0), (0, .ref 16), (1, .ref 21), (2, .ref a2)]) dX0_answer_23 rfl (by decide) rfl ?_
  refine mm_iload_n (pc := 24) (j := 0) dX0_answer_24 rfl rfl ?_
  refine mm_if_eq (pc := 25) (tgt := 34) dX0_answer_25 (by decide) (fun hc => ?_) (fun hc => ?_)
  · have h := mm_ift hc h
    refine mm_lconst (pc := 34) (x := 0) dX0_answer_34 rfl ?_
    refine mm_lstore (pc := 35) (lv' := [(4, .long 0), (3, .int u0), (0, .ref 16), (1, .ref 21), (2, .ref a2)]) dX0_answer_35 (by decide) rfl ?_
    refine mm_iconst (pc := 37) (x := 0) dX0_answer_37 rfl ?_
    refine mm_istore (pc := 38) (lv' := [(6, .int 0), (4, .long 0), (3, .int u0), (0, .ref 16), (1, .ref 21), (2, .ref a2)]) dX0_answer_38 (by decide) rfl ?_
    refine mm_iconst (pc := 40) (x := 0) dX0_answer_40 rfl ?_
    refine mm_istore (pc := 41) (lv' := [(7, .int 0), (6, .int 0), (4, .long 0), (3, .int u0), (0, .ref 16), (1, .ref 21), (2, .ref a2)]) dX0_answer_41 (by decide) rfl ?_
    exact mm_sub [4, 5, 6, 2, 1, 0] rfl h
  · have h := mm_iff hc h
    refine mm_ldc2 (pc := 28) (x := (-1)) dX0_answer_28 cX0_62 ?_
    refine mm_goto (pc := 31) (tgt := 35) dX0_answer_31 (by decide) ?_
    refine mm_lstore (pc := 35) (lv' := [(4, .long (-1)), (3, .int u0), (0, .ref 16), (1, .ref 21), (2, .ref a2)]) dX0_answer_35 (by decide) rfl ?_
    refine mm_iconst (pc := 37) (x := 0) dX0_answer_37 rfl ?_
    refine mm_istore (pc := 38) (lv' := [(6, .int 0), (4, .long (-1)), (3, .int u0), (0, .ref 16), (1, .ref 21), (2, .ref a2)]) dX0_answer_38 (by decide) rfl ?_
    refine mm_iconst (pc := 40) (x := 0) dX0_answer_40 rfl ?_
    refine mm_istore (pc := 41) (lv' := [(7, .int 0), (6, .int 0), (4, .long (-1)), (3, .int u0), (0, .ref 16), (1, .ref 21), (2, .ref a2)]) dX0_answer_41 (by decide) rfl ?_
    exact mm_sub [4, 5, 6, 2, 1, 0] rfl h
set_option maxRecDepth 100000 in
set_option maxHeartbeats 4000000 in
theorem lX0_answer_43 {d : Nat} {a2 : Nat} {M : mm_M} {K : Int64 → mm_M → Prop} {y4 : Int64} {y6 : Int32} {y7 : Int32} (ha2 : a2 ∈ mm_Sts) (hG : mm_G M.2.2) (h : ∃ q46 : Nat, M.2.2 21 0 = some q46 ∧ q46 ∈ mm_Rls ∧ if (M.1 q46 2) ≤ y7 then (K y4 M) else (mm_CI mX9_isThere d [.ref a2, .int y7] M (fun z58 m58 => if z58 = 0 then (jX0_answer_43 d a2 m58 K y4 y6 (y7 + 1)) else (mm_CV mX0_tellAll d [.ref 21, .ref a2, .int y7] m58 (fun m68 => mm_CI mX5_value d [.ref 30, .ref 20, .int 0, .int (m68.1 17 14)] m68 (fun z87 m87 => mm_CL mX0_joined d [.ref 16, .long y4, .int y6, .int y7, .int z87] m87 (fun z101 m101 => jX0_answer_43 d a2 m101 K z101 1 (y7 + 1)))))))) : jX0_answer_43 d a2 M K y4 y6 y7 := by
  unfold jX0_answer_43
  refine mm_iload (pc := 43) (j := 5) dX0_answer_43 rfl ?_
  refine mm_aload_n (pc := 45) (j := 1) dX0_answer_45 rfl rfl ?_
  obtain ⟨q46, he46, hq46, h⟩ := h
  refine mm_getR (pc := 46) (ci := 1) (N := 5) (r := q46) dX0_answer_46 fX0_64 sh_21 rfl he46 ?_
  refine mm_getI (pc := 49) (ci := 7) (N := 11) dX0_answer_49 fX0_70 (sh_Rl hq46) rfl ?_
  refine mm_icmp_ge (pc := 52) (tgt := 115) dX0_answer_52 (by decide) (fun hc => ?_) (fun hc => ?_)
  · have h := mm_ift hc h
    refine mm_lload (pc := 115) (j := 3) dX0_answer_115 rfl ?_
    exact mm_lret (pc := 117) dX0_answer_117 rfl (Nat.le_refl 0) (Nat.le_refl 0) ⟨_, rfl, rfl, hG, h⟩
  · have h := mm_iff hc h
    refine mm_aload_n (pc := 55) (j := 2) dX0_answer_55 rfl rfl ?_
    refine mm_iload (pc := 56) (j := 5) dX0_answer_56 rfl ?_
    refine mm_kVI (pc := 58) [.int y7] dX0_answer_58 kX0_73 rfl (sh_St ha2) (Nat.le_of_ble_eq_true rfl) (Nat.le_of_ble_eq_true rfl) h (fun z58 m58 hG h => ?_)
    refine mm_if_eq (pc := 61) (tgt := 109) dX0_answer_61 (by decide) (fun hc => ?_) (fun hc => ?_)
    · have h := mm_ift hc h
      refine mm_iinc (pc := 109) (j := 5) (v := y7 + 1) (lv' := [(7, .int (y7 + 1)), (0, .ref 16), (1, .ref 21), (2, .ref a2), (4, .long y4), (6, .int y6)]) dX0_answer_109 rfl rfl (by decide) rfl ?_
      refine mm_goto (pc := 112) (tgt := 43) dX0_answer_112 (by decide) ?_
      exact mm_sub [1, 2, 3, 4, 5, 0] rfl h
    · have h := mm_iff hc h
      refine mm_aload_n (pc := 64) (j := 1) dX0_answer_64 rfl rfl ?_
      refine mm_aload_n (pc := 65) (j := 2) dX0_answer_65 rfl rfl ?_
      refine mm_iload (pc := 66) (j := 5) dX0_answer_66 rfl ?_
      refine mm_kSV (pc := 68) [.ref 21, .ref a2, .int y7] dX0_answer_68 kX0_79 rfl (Nat.le_of_ble_eq_true rfl) (Nat.le_of_ble_eq_true rfl) h (fun m68 hG h => ?_)
      refine mm_aload_n (pc := 71) (j := 1) dX0_answer_71 rfl rfl ?_
      refine mm_getR (pc := 72) (ci := 1) (N := 5) (r := 30) dX0_answer_72 fX0_83 sh_21 rfl (g_21_1 hG) ?_
      refine mm_aload_n (pc := 75) (j := 0) dX0_answer_75 rfl rfl ?_
      refine mm_getR (pc := 76) (ci := 0) (N := 3) (r := 20) dX0_answer_76 fX0_22 sh_16 rfl (g_16_1 hG) ?_
      refine mm_iconst (pc := 79) (x := 0) dX0_answer_79 rfl ?_
      refine mm_aload_n (pc := 80) (j := 0) dX0_answer_80 rfl rfl ?_
      refine mm_getR (pc := 81) (ci := 0) (N := 3) (r := 17) dX0_answer_81 fX0_14 sh_16 rfl (g_16_0 hG) ?_
      refine mm_getI (pc := 84) (ci := 6) (N := 15) dX0_answer_84 fX0_87 sh_17 rfl ?_
      refine mm_kVI (pc := 87) [.ref 20, .int 0, .int (m68.1 17 14)] dX0_answer_87 kX0_90 rfl sh_30 (Nat.le_of_ble_eq_true rfl) (Nat.le_of_ble_eq_true rfl) h (fun z87 m87 hG h => ?_)
      refine mm_istore (pc := 90) (lv' := [(8, .int z87), (0, .ref 16), (1, .ref 21), (2, .ref a2), (4, .long y4), (6, .int y6), (7, .int y7)]) dX0_answer_90 (by decide) rfl ?_
      refine mm_aload_n (pc := 92) (j := 1) dX0_answer_92 rfl rfl ?_
      refine mm_lload (pc := 93) (j := 4) dX0_answer_93 rfl ?_
      refine mm_iload (pc := 95) (j := 5) dX0_answer_95 rfl ?_
      refine mm_iload (pc := 97) (j := 6) dX0_answer_97 rfl ?_
      refine mm_iload (pc := 99) (j := 0) dX0_answer_99 rfl ?_
      refine mm_kVL (pc := 101) [.long y4, .int y6, .int y7, .int z87] dX0_answer_101 kX0_96 rfl sh_16 (Nat.le_of_ble_eq_true rfl) (Nat.le_of_ble_eq_true rfl) h (fun z101 m101 hG h => ?_)
      refine mm_lstore (pc := 104) (lv' := [(4, .long z101), (8, .int z87), (0, .ref 16), (1, .ref 21), (2, .ref a2), (6, .int y6), (7, .int y7)]) dX0_answer_104 (by decide) rfl ?_
      refine mm_iconst (pc := 106) (x := 1) dX0_answer_106 rfl ?_
      refine mm_istore (pc := 107) (lv' := [(6, .int 1), (4, .long z101), (8, .int z87), (0, .ref 16), (1, .ref 21), (2, .ref a2), (7, .int y7)]) dX0_answer_107 (by decide) rfl ?_
      refine mm_iinc (pc := 109) (j := 6) (v := y7 + 1) (lv' := [(7, .int (y7 + 1)), (6, .int 1), (4, .long z101), (8, .int z87), (0, .ref 16), (1, .ref 21), (2, .ref a2)]) dX0_answer_109 rfl rfl (by decide) rfl ?_
      refine mm_goto (pc := 112) (tgt := 43) dX0_answer_112 (by decide) ?_
      exact mm_sub [4, 5, 6, 2, 1, 0] rfl h
set_option maxRecDepth 100000 in
set_option maxHeartbeats 4000000 in
theorem rX0_joined {d : Nat} {x1 : Int64} {x3 : Int32} {x4 : Int32} {x5 : Int32} {M : mm_M} {K : Int64 → mm_M → Prop} (hG : mm_G M.2.2) (h : if (M.1 16 2) = 24 then (if x1 = (-1) then (if x5 = 0 then (K x1 M) else (K x4.toInt64 M)) else (K x1 M)) else (if (M.1 16 2) = 25 then (if x5 = 0 then (K x1 M) else (K x4.toInt64 M)) else (if (M.1 16 2) = 26 then (K (x1 + x5.toInt64) M) else (if (M.1 16 2) = 27 then (K (x1 + x5.toInt64) M) else (if (M.1 16 2) = 28 then (if x3 = 0 then (K x5.toInt64 M) else (K (if x5.toInt64 < x1 then x1 else x5.toInt64) M)) else (if (M.1 16 2) = 29 then (if x3 = 0 then (K x5.toInt64 M) else (K (if x5.toInt64 < x1 then x5.toInt64 else x1) M)) else (K (x1 + x5.toInt64) M))))))) : mm_CL mX0_joined (d + 1) [.ref 16, .long x1, .int x3, .int x4, .int x5] M K := by
  show mm_W mX0_joined (d + 1) 0 0 0 [(0, .ref 16), (1, .long x1), (3, .int x3), (4, .int x4), (5, .int x5)] [] mm_SH M 0 0 (mm_PL K)
  refine mm_aload_n (pc := 0) (j := 0) dX0_joined_0 rfl rfl ?_
  refine mm_getI (pc := 1) (ci := 0) (N := 3) dX0_joined_1 fX0_42 sh_16 rfl ?_
  by_cases hs4_0 : (M.1 16 2) = 24
  · have h := mm_ift hs4_0 h
    refine mm_tableIn (pc := 4) (off := 40) (tgt := 44) dX0_joined_4 (by rw [hs4_0]; decide) (by rw [hs4_0]; decide) (by rw [hs4_0]; rfl) (by decide) ?_
    refine mm_lload_n (pc := 44) (j := 1) dX0_joined_44 rfl rfl ?_
    refine mm_ldc2 (pc := 45) (x := (-1)) dX0_joined_45 cX0_62 ?_
    refine mm_lcmp (pc := 48) dX0_joined_48 ?_
    refine mm_if_ne (pc := 49) (tgt := 63) dX0_joined_49 (by decide) (fun hc => ?_) (fun hc => ?_)
    · have h := mm_iff (fun q => hc (lgc_eq.mpr q)) h
      refine mm_lload_n (pc := 63) (j := 1) dX0_joined_63 rfl rfl ?_
      exact mm_lret (pc := 64) dX0_joined_64 rfl (Nat.le_refl 0) (Nat.le_refl 0) ⟨_, rfl, rfl, hG, h⟩
    · have h := mm_ift (lgc_eq.mp hc) h
      refine mm_iload (pc := 52) (j := 4) dX0_joined_52 rfl ?_
      refine mm_if_eq (pc := 54) (tgt := 63) dX0_joined_54 (by decide) (fun hc => ?_) (fun hc => ?_)
      · have h := mm_ift hc h
        refine mm_lload_n (pc := 63) (j := 1) dX0_joined_63 rfl rfl ?_
        exact mm_lret (pc := 64) dX0_joined_64 rfl (Nat.le_refl 0) (Nat.le_refl 0) ⟨_, rfl, rfl, hG, h⟩
      · have h := mm_iff hc h
        refine mm_iload (pc := 57) (j := 3) dX0_joined_57 rfl ?_
        refine mm_i2l (pc := 59) dX0_joined_59 ?_
        refine mm_goto (pc := 60) (tgt := 64) dX0_joined_60 (by decide) ?_
        exact mm_lret (pc := 64) dX0_joined_64 rfl (Nat.le_refl 0) (Nat.le_refl 0) ⟨_, rfl, rfl, hG, h⟩
  · have h := mm_iff hs4_0 h
    by_cases hs4_1 : (M.1 16 2) = 25
    · have h := mm_ift hs4_1 h
      refine mm_tableIn (pc := 4) (off := 61) (tgt := 65) dX0_joined_4 (by rw [hs4_1]; decide) (by rw [hs4_1]; decide) (by rw [hs4_1]; rfl) (by decide) ?_
      refine mm_iload (pc := 65) (j := 4) dX0_joined_65 rfl ?_
      refine mm_if_eq (pc := 67) (tgt := 76) dX0_joined_67 (by decide) (fun hc => ?_) (fun hc => ?_)
      · have h := mm_ift hc h
        refine mm_lload_n (pc := 76) (j := 1) dX0_joined_76 rfl rfl ?_
        exact mm_lret (pc := 77) dX0_joined_77 rfl (Nat.le_refl 0) (Nat.le_refl 0) ⟨_, rfl, rfl, hG, h⟩
      · have h := mm_iff hc h
        refine mm_iload (pc := 70) (j := 3) dX0_joined_70 rfl ?_
        refine mm_i2l (pc := 72) dX0_joined_72 ?_
        refine mm_goto (pc := 73) (tgt := 77) dX0_joined_73 (by decide) ?_
        exact mm_lret (pc := 77) dX0_joined_77 rfl (Nat.le_refl 0) (Nat.le_refl 0) ⟨_, rfl, rfl, hG, h⟩
    · have h := mm_iff hs4_1 h
      by_cases hs4_2 : (M.1 16 2) = 26
      · have h := mm_ift hs4_2 h
        refine mm_tableIn (pc := 4) (off := 110) (tgt := 114) dX0_joined_4 (by rw [hs4_2]; decide) (by rw [hs4_2]; decide) (by rw [hs4_2]; rfl) (by decide) ?_
        refine mm_lload_n (pc := 114) (j := 1) dX0_joined_114 rfl rfl ?_
        refine mm_iload (pc := 115) (j := 4) dX0_joined_115 rfl ?_
        refine mm_i2l (pc := 117) dX0_joined_117 ?_
        refine mm_ladd (pc := 118) dX0_joined_118 ?_
        exact mm_lret (pc := 119) dX0_joined_119 rfl (Nat.le_refl 0) (Nat.le_refl 0) ⟨_, rfl, rfl, hG, h⟩
      · have h := mm_iff hs4_2 h
        by_cases hs4_3 : (M.1 16 2) = 27
        · have h := mm_ift hs4_3 h
          refine mm_tableIn (pc := 4) (off := 110) (tgt := 114) dX0_joined_4 (by rw [hs4_3]; decide) (by rw [hs4_3]; decide) (by rw [hs4_3]; rfl) (by decide) ?_
          refine mm_lload_n (pc := 114) (j := 1) dX0_joined_114 rfl rfl ?_
          refine mm_iload (pc := 115) (j := 4) dX0_joined_115 rfl ?_
          refine mm_i2l (pc := 117) dX0_joined_117 ?_
          refine mm_ladd (pc := 118) dX0_joined_118 ?_
          exact mm_lret (pc := 119) dX0_joined_119 rfl (Nat.le_refl 0) (Nat.le_refl 0) ⟨_, rfl, rfl, hG, h⟩
        · have h := mm_iff hs4_3 h
          by_cases hs4_4 : (M.1 16 2) = 28
          · have h := mm_ift hs4_4 h
            refine mm_tableIn (pc := 4) (off := 74) (tgt := 78) dX0_joined_4 (by rw [hs4_4]; decide) (by rw [hs4_4]; decide) (by rw [hs4_4]; rfl) (by decide) ?_
            refine mm_iload_n (pc := 78) (j := 2) dX0_joined_78 rfl rfl ?_
            refine mm_if_eq (pc := 79) (tgt := 92) dX0_joined_79 (by decide) (fun hc => ?_) (fun hc => ?_)
            · have h := mm_ift hc h
              refine mm_iload (pc := 92) (j := 4) dX0_joined_92 rfl ?_
              refine mm_i2l (pc := 94) dX0_joined_94 ?_
              exact mm_lret (pc := 95) dX0_joined_95 rfl (Nat.le_refl 0) (Nat.le_refl 0) ⟨_, rfl, rfl, hG, h⟩
            · have h := mm_iff hc h
              refine mm_lload_n (pc := 82) (j := 1) dX0_joined_82 rfl rfl ?_
              refine mm_iload (pc := 83) (j := 4) dX0_joined_83 rfl ?_
              refine mm_i2l (pc := 85) dX0_joined_85 ?_
              refine mm_mmaxL (pc := 86) dX0_joined_86 kX0_100 ma_maxL_s ma_ini ma_maxL_c (Nat.le_of_ble_eq_true rfl) (Nat.le_refl 0) (Nat.le_refl 0) ?_
              refine mm_goto (pc := 89) (tgt := 95) dX0_joined_89 (by decide) ?_
              exact mm_lret (pc := 95) dX0_joined_95 rfl (Nat.le_refl 0) (Nat.le_refl 0) ⟨_, rfl, rfl, hG, h⟩
          · have h := mm_iff hs4_4 h
            by_cases hs4_5 : (M.1 16 2) = 29
            · have h := mm_ift hs4_5 h
              refine mm_tableIn (pc := 4) (off := 92) (tgt := 96) dX0_joined_4 (by rw [hs4_5]; decide) (by rw [hs4_5]; decide) (by rw [hs4_5]; rfl) (by decide) ?_
              refine mm_iload_n (pc := 96) (j := 2) dX0_joined_96 rfl rfl ?_
              refine mm_if_eq (pc := 97) (tgt := 110) dX0_joined_97 (by decide) (fun hc => ?_) (fun hc => ?_)
              · have h := mm_ift hc h
                refine mm_iload (pc := 110) (j := 4) dX0_joined_110 rfl ?_
                refine mm_i2l (pc := 112) dX0_joined_112 ?_
                exact mm_lret (pc := 113) dX0_joined_113 rfl (Nat.le_refl 0) (Nat.le_refl 0) ⟨_, rfl, rfl, hG, h⟩
              · have h := mm_iff hc h
                refine mm_lload_n (pc := 100) (j := 1) dX0_joined_100 rfl rfl ?_
                refine mm_iload (pc := 101) (j := 4) dX0_joined_101 rfl ?_
                refine mm_i2l (pc := 103) dX0_joined_103 ?_
                refine mm_mminL (pc := 104) dX0_joined_104 kX0_106 ma_minL_s ma_ini ma_minL_c (Nat.le_of_ble_eq_true rfl) (Nat.le_refl 0) (Nat.le_refl 0) ?_
                refine mm_goto (pc := 107) (tgt := 113) dX0_joined_107 (by decide) ?_
                exact mm_lret (pc := 113) dX0_joined_113 rfl (Nat.le_refl 0) (Nat.le_refl 0) ⟨_, rfl, rfl, hG, h⟩
            · have h := mm_iff hs4_5 h
              have ht4_0 := lv_neT hs4_0 (show (24 : Int32).toInt = 24 from rfl)
              have ht4_1 := lv_neT hs4_1 (show (25 : Int32).toInt = 25 from rfl)
              have ht4_2 := lv_neT hs4_2 (show (26 : Int32).toInt = 26 from rfl)
              have ht4_3 := lv_neT hs4_3 (show (27 : Int32).toInt = 27 from rfl)
              have ht4_4 := lv_neT hs4_4 (show (28 : Int32).toInt = 28 from rfl)
              have ht4_5 := lv_neT hs4_5 (show (29 : Int32).toInt = 29 from rfl)
              refine mm_tableOut (pc := 4) (tgt := 114) dX0_joined_4 (by omega) (by decide) ?_
              refine mm_lload_n (pc := 114) (j := 1) dX0_joined_114 rfl rfl ?_
              refine mm_iload (pc := 115) (j := 4) dX0_joined_115 rfl ?_
              refine mm_i2l (pc := 117) dX0_joined_117 ?_
              refine mm_ladd (pc := 118) dX0_joined_118 ?_
              exact mm_lret (pc := 119) dX0_joined_119 rfl (Nat.le_refl 0) (Nat.le_refl 0) ⟨_, rfl, rfl, hG, h⟩
def jX0_tellAll_8 (d : Nat) (a1 : Nat) (x2 : Int32) (M : mm_M) (K : mm_M → Prop) (y2 : Int32) (y4 : Int32) : Prop := mm_W mX0_tellAll (d + 1) 0 0 8 [(0, .ref 21), (1, .ref a1), (2, .int y2), (3, .ref 30), (4, .int y4)] [] mm_SH M 0 0 (mm_PV K)
def jX0_tellAll_78 (d : Nat) (a1 : Nat) (x2 : Int32) (M : mm_M) (K : mm_M → Prop) (y2 : Int32) : Prop := mm_W mX0_tellAll (d + 1) 0 0 78 [(0, .ref 21), (1, .ref a1), (2, .int y2), (3, .ref 30)] [] mm_SH M 0 0 (mm_PV K)
set_option maxRecDepth 100000 in
set_option maxHeartbeats 4000000 in
theorem rX0_tellAll {d : Nat} {a1 : Nat} {x2 : Int32} {M : mm_M} {K : mm_M → Prop} (ha1 : a1 ∈ mm_Sts) (hG : mm_G M.2.2) (h : jX0_tellAll_8 d a1 x2 M K x2 0) : mm_CV mX0_tellAll (d + 1) [.ref 21, .ref a1, .int x2] M K := by
  show mm_W mX0_tellAll (d + 1) 0 0 0 [(0, .ref 21), (1, .ref a1), (2, .int x2)] [] mm_SH M 0 0 (mm_PV K)
  refine mm_aload_n (pc := 0) (j := 0) dX0_tellAll_0 rfl rfl ?_
  refine mm_getR (pc := 1) (ci := 1) (N := 5) (r := 30) dX0_tellAll_1 fX0_83 sh_21 rfl (g_21_1 hG) ?_
  refine mm_astore_n (pc := 4) (lv' := [(3, .ref 30), (0, .ref 21), (1, .ref a1), (2, .int x2)]) dX0_tellAll_4 rfl (by decide) rfl ?_
  refine mm_iconst (pc := 5) (x := 0) dX0_tellAll_5 rfl ?_
  refine mm_istore (pc := 6) (lv' := [(4, .int 0), (3, .ref 30), (0, .ref 21), (1, .ref a1), (2, .int x2)]) dX0_tellAll_6 (by decide) rfl ?_
  exact mm_sub [2, 3, 4, 1, 0] rfl h
set_option maxRecDepth 100000 in
set_option maxHeartbeats 4000000 in
theorem lX0_tellAll_8 {d : Nat} {a1 : Nat} {x2 : Int32} {M : mm_M} {K : mm_M → Prop} {y2 : Int32} {y4 : Int32} (ha1 : a1 ∈ mm_Sts) (hG : mm_G M.2.2) (h : if 7 ≤ y4 then (jX0_tellAll_78 d a1 x2 M K y2) else (if y2 < 0 then (jX0_tellAll_78 d a1 x2 M K y2) else (if 7 ≤ y2 then (jX0_tellAll_78 d a1 x2 M K y2) else (vp_in ((8 * y2) + y4) 64 ∧ vp_in y4 7 ∧ if (M.1 (a1 + 3) ((8 * y2) + y4).toNatClampNeg) ≤ 0 then (vp_in y4 7 ∧ jX0_tellAll_8 d a1 x2 (mm_uI (mm_uI M 32 y4.toNatClampNeg (M.1 (a1 + 3) ((8 * y2) + y4).toNatClampNeg)) 33 y4.toNatClampNeg (-1)) K y2 (y4 + 1)) else (mm_CI mX1_tasteOfLoaf d [.ref 21, .ref a1, .int y4, .int y2] (mm_uI M 32 y4.toNatClampNeg (M.1 (a1 + 3) ((8 * y2) + y4).toNatClampNeg)) (fun z64 m64 => vp_in y4 7 ∧ jX0_tellAll_8 d a1 x2 (mm_uI m64 33 y4.toNatClampNeg z64) K y2 (y4 + 1))))))) : jX0_tellAll_8 d a1 x2 M K y2 y4 := by
  unfold jX0_tellAll_8
  refine mm_iload (pc := 8) (j := 4) dX0_tellAll_8 rfl ?_
  refine mm_bipush (pc := 10) (x := 7) dX0_tellAll_10 rfl ?_
  refine mm_icmp_ge (pc := 12) (tgt := 78) dX0_tellAll_12 (by decide) (fun hc => ?_) (fun hc => ?_)
  · have h := mm_ift hc h
    exact mm_sub [0, 1, 2, 3] rfl h
  · have h := mm_iff hc h
    refine mm_iload_n (pc := 15) (j := 2) dX0_tellAll_15 rfl rfl ?_
    refine mm_if_lt (pc := 16) (tgt := 78) dX0_tellAll_16 (by decide) (fun hc => ?_) (fun hc => ?_)
    · have h := mm_ift hc h
      exact mm_sub [0, 1, 2, 3] rfl h
    · have h := mm_iff hc h
      refine mm_iload_n (pc := 19) (j := 2) dX0_tellAll_19 rfl rfl ?_
      refine mm_bipush (pc := 20) (x := 7) dX0_tellAll_20 rfl ?_
      refine mm_icmp_ge (pc := 22) (tgt := 78) dX0_tellAll_22 (by decide) (fun hc => ?_) (fun hc => ?_)
      · have h := mm_ift hc h
        exact mm_sub [0, 1, 2, 3] rfl h
      · have h := mm_iff hc h
        refine mm_aload_n (pc := 25) (j := 1) dX0_tellAll_25 rfl rfl ?_
        refine mm_getR (pc := 26) (ci := 9) (N := 7) (r := a1 + 3) dX0_tellAll_26 fX0_109 (sh_St ha1) rfl (g_St_5 hG ha1) ?_
        refine mm_bipush (pc := 29) (x := 8) dX0_tellAll_29 rfl ?_
        refine mm_iload_n (pc := 31) (j := 2) dX0_tellAll_31 rfl rfl ?_
        refine mm_imul (pc := 32) dX0_tellAll_32 ?_
        refine mm_iload (pc := 33) (j := 4) dX0_tellAll_33 rfl ?_
        refine mm_iadd (pc := 35) dX0_tellAll_35 ?_
        obtain ⟨hi36, h⟩ := h
        refine mm_iaload (pc := 36) (N := 64) dX0_tellAll_36 (sh_St_3 ha1) hi36 ?_
        refine mm_istore (pc := 37) (lv' := [(5, .int (M.1 (a1 + 3) ((8 * y2) + y4).toNatClampNeg)), (0, .ref 21), (1, .ref a1), (2, .int y2), (3, .ref 30), (4, .int y4)]) dX0_tellAll_37 (by decide) rfl ?_
        refine mm_aload_n (pc := 39) (j := 4) dX0_tellAll_39 rfl rfl ?_
        refine mm_getR (pc := 40) (ci := 5) (N := 4) (r := 32) dX0_tellAll_40 fX0_112 sh_30 rfl (g_30_1 hG) ?_
        refine mm_iload (pc := 43) (j := 5) dX0_tellAll_43 rfl ?_
        refine mm_iload (pc := 45) (j := 0) dX0_tellAll_45 rfl ?_
        obtain ⟨hi47, h⟩ := h
        refine mm_iastore (pc := 47) (N := 7) dX0_tellAll_47 sh_32 hi47 ?_
        refine mm_aload_n (pc := 48) (j := 4) dX0_tellAll_48 rfl rfl ?_
        refine mm_getR (pc := 49) (ci := 5) (N := 4) (r := 33) dX0_tellAll_49 fX0_115 sh_30 rfl (g_30_2 hG) ?_
        refine mm_iload (pc := 52) (j := 5) dX0_tellAll_52 rfl ?_
        refine mm_iload (pc := 54) (j := 0) dX0_tellAll_54 rfl ?_
        refine mm_if_le (pc := 56) (tgt := 70) dX0_tellAll_56 (by decide) (fun hc => ?_) (fun hc => ?_)
        · have h := mm_ift hc h
          refine mm_iconst (pc := 70) (x := (-1)) dX0_tellAll_70 rfl ?_
          obtain ⟨hi71, h⟩ := h
          refine mm_iastore (pc := 71) (N := 7) dX0_tellAll_71 sh_33 hi71 ?_
          refine mm_iinc (pc := 72) (j := 5) (v := y4 + 1) (lv' := [(4, .int (y4 + 1)), (5, .int (M.1 (a1 + 3) ((8 * y2) + y4).toNatClampNeg)), (0, .ref 21), (1, .ref a1), (2, .int y2), (3, .ref 30)]) dX0_tellAll_72 rfl rfl (by decide) rfl ?_
          refine mm_goto (pc := 75) (tgt := 8) dX0_tellAll_75 (by decide) ?_
          exact mm_sub [2, 3, 4, 5, 0] rfl h
        · have h := mm_iff hc h
          refine mm_aload_n (pc := 59) (j := 1) dX0_tellAll_59 rfl rfl ?_
          refine mm_aload_n (pc := 60) (j := 2) dX0_tellAll_60 rfl rfl ?_
          refine mm_iload (pc := 61) (j := 5) dX0_tellAll_61 rfl ?_
          refine mm_iload_n (pc := 63) (j := 3) dX0_tellAll_63 rfl rfl ?_
          refine mm_kVI (pc := 64) [.ref a1, .int y4, .int y2] dX0_tellAll_64 kX0_118 rfl sh_21 (Nat.le_of_ble_eq_true rfl) (Nat.le_of_ble_eq_true rfl) h (fun z64 m64 hG h => ?_)
          refine mm_goto (pc := 67) (tgt := 71) dX0_tellAll_67 (by decide) ?_
          obtain ⟨hi71, h⟩ := h
          refine mm_iastore (pc := 71) (N := 7) dX0_tellAll_71 sh_33 hi71 ?_
          refine mm_iinc (pc := 72) (j := 5) (v := y4 + 1) (lv' := [(4, .int (y4 + 1)), (5, .int (M.1 (a1 + 3) ((8 * y2) + y4).toNatClampNeg)), (0, .ref 21), (1, .ref a1), (2, .int y2), (3, .ref 30)]) dX0_tellAll_72 rfl rfl (by decide) rfl ?_
          refine mm_goto (pc := 75) (tgt := 8) dX0_tellAll_75 (by decide) ?_
          exact mm_sub [2, 3, 4, 5, 0] rfl h
set_option maxRecDepth 100000 in
set_option maxHeartbeats 4000000 in
theorem lX0_tellAll_78 {d : Nat} {a1 : Nat} {x2 : Int32} {M : mm_M} {K : mm_M → Prop} {y2 : Int32} (ha1 : a1 ∈ mm_Sts) (hG : mm_G M.2.2) (h : mm_CV mX1_tellHouse d [.ref 21, .ref a1, .int y2] M (fun m81 => mm_CI mX9_countEnemies d [.ref a1, .int y2] (mm_uI m81 31 (16 : Int32).toNatClampNeg y2) (fun z100 m100 => K (mm_uI m100 31 (17 : Int32).toNatClampNeg z100)))) : jX0_tellAll_78 d a1 x2 M K y2 := by
  unfold jX0_tellAll_78
  refine mm_aload_n (pc := 78) (j := 0) dX0_tellAll_78 rfl rfl ?_
  refine mm_aload_n (pc := 79) (j := 1) dX0_tellAll_79 rfl rfl ?_
  refine mm_iload_n (pc := 80) (j := 2) dX0_tellAll_80 rfl rfl ?_
  refine mm_kVV (pc := 81) [.ref a1, .int y2] dX0_tellAll_81 kX0_122 rfl sh_21 (Nat.le_of_ble_eq_true rfl) (Nat.le_of_ble_eq_true rfl) h (fun m81 hG h => ?_)
  refine mm_aload_n (pc := 84) (j := 3) dX0_tellAll_84 rfl rfl ?_
  refine mm_getR (pc := 85) (ci := 5) (N := 4) (r := 31) dX0_tellAll_85 fX0_126 sh_30 rfl (g_30_0 hG) ?_
  refine mm_bipush (pc := 88) (x := 16) dX0_tellAll_88 rfl ?_
  refine mm_iload_n (pc := 90) (j := 2) dX0_tellAll_90 rfl rfl ?_
  refine mm_iastore (pc := 91) (N := 24) dX0_tellAll_91 sh_31 (mm_vin (k := 16) rfl (by decide) (by decide)) ?_
  refine mm_aload_n (pc := 92) (j := 3) dX0_tellAll_92 rfl rfl ?_
  refine mm_getR (pc := 93) (ci := 5) (N := 4) (r := 31) dX0_tellAll_93 fX0_126 sh_30 rfl (g_30_0 hG) ?_
  refine mm_bipush (pc := 96) (x := 17) dX0_tellAll_96 rfl ?_
  refine mm_aload_n (pc := 98) (j := 1) dX0_tellAll_98 rfl rfl ?_
  refine mm_iload_n (pc := 99) (j := 2) dX0_tellAll_99 rfl rfl ?_
  refine mm_kVI (pc := 100) [.int y2] dX0_tellAll_100 kX0_128 rfl (sh_St ha1) (Nat.le_of_ble_eq_true rfl) (Nat.le_of_ble_eq_true rfl) h (fun z100 m100 hG h => ?_)
  refine mm_iastore (pc := 103) (N := 24) dX0_tellAll_103 sh_31 (mm_vin (k := 17) rfl (by decide) (by decide)) ?_
  exact mm_vret (pc := 104) dX0_tellAll_104 rfl (Nat.le_refl 0) (Nat.le_refl 0) ⟨rfl, rfl, hG, h⟩
set_option maxRecDepth 100000 in
set_option maxHeartbeats 4000000 in
theorem rX2_exchange {d : Nat} {a1 : Nat} {M : mm_M} {K : Nat → mm_M → Prop} (ha1 : a1 ∈ mm_Rls) (hG : mm_G M.2.2) (h : ∃ q1 : Nat, M.2.2 4 1 = some q1 ∧ q1 ∈ mm_Rls ∧ K q1 (mm_uR M 4 1 (some a1))) : mm_CR mX2_exchange d [.ref 4, .ref a1] M K := by
  show mm_W mX2_exchange d 0 0 0 [(0, .ref 4), (1, .ref a1)] [] mm_SH M 0 0 (mm_PR K)
  refine mm_aload_n (pc := 0) (j := 0) dX2_exchange_0 rfl rfl ?_
  obtain ⟨q1, he1, hq1, h⟩ := h
  refine mm_getR (pc := 1) (ci := 2) (N := 3) (r := q1) dX2_exchange_1 fX2_21 sh_4 rfl he1 ?_
  refine mm_astore_n (pc := 4) (lv' := [(2, .ref q1), (0, .ref 4), (1, .ref a1)]) dX2_exchange_4 rfl (by decide) rfl ?_
  refine mm_aload_n (pc := 5) (j := 1) dX2_exchange_5 rfl rfl ?_
  refine mm_aload_n (pc := 6) (j := 2) dX2_exchange_6 rfl rfl ?_
  refine mm_putR (pc := 7) (ci := 2) (N := 3) dX2_exchange_7 fX2_21 sh_4 (by decide +kernel) rfl ?_
  have hG := mm_G_up (a := 4) (j := 1) (r := some a1) hG (by decide +kernel)
  refine mm_aload_n (pc := 10) (j := 0) dX2_exchange_10 rfl rfl ?_
  exact mm_aret (pc := 11) dX2_exchange_11 rfl (Nat.le_refl 0) (Nat.le_refl 0) ⟨_, rfl, rfl, hG, h⟩
def jX2_read_30 (d : Nat) (r1 : Nat) (n1 : Nat) (x2 : Int32) (M : mm_M) (K : mm_M → Prop) (y3 : Int32) : Prop := mm_W mX2_read (d + 1) 0 0 30 [(0, .ref 4), (3, .int y3)] [] mm_SH M 0 0 (mm_PV K)
def jX2_read_108 (d : Nat) (r1 : Nat) (n1 : Nat) (x2 : Int32) (M : mm_M) (K : mm_M → Prop) (y3 : Int32) (y4 : Int32) (u0 : Int32) (u1 : Int32) : Prop := mm_W mX2_read (d + 1) 0 0 108 [(0, .ref 4), (3, .int y3), (4, .int y4)] [.int u0, .int u1] mm_SH M 0 0 (mm_PV K)
def jX2_read_213 (d : Nat) (r1 : Nat) (n1 : Nat) (x2 : Int32) (M : mm_M) (K : mm_M → Prop) (y3 : Int32) (y4 : Int32) : Prop := mm_W mX2_read (d + 1) 0 0 213 [(0, .ref 4), (3, .int y3), (4, .int y4)] [] mm_SH M 0 0 (mm_PV K)
set_option maxRecDepth 100000 in
set_option maxHeartbeats 4000000 in
theorem rX2_read {d : Nat} {r1 : Nat} {n1 : Nat} {x2 : Int32} {M : mm_M} {K : mm_M → Prop} (hr1 : mm_SH[r1]? = some (0, n1)) (hG : mm_G M.2.2) (h : ∃ q12 : Nat, (mm_uI M 4 2 0).2.2 4 1 = some q12 ∧ q12 ∈ mm_Rls ∧ ∃ q19 : Nat, (mm_uI M 4 2 0).2.2 4 1 = some q19 ∧ q19 ∈ mm_Rls ∧ mm_CI mX7_clear d [.ref q19] (mm_uI M 4 2 0) (fun z22 m22 => mm_CV mX6_begin d [.ref 5, .ref r1, .int x2, .ref (q12 + 5), .int z22] m22 (fun m25 => jX2_read_30 d r1 n1 x2 m25 K 0))) : mm_CV mX2_read (d + 1) [.ref 4, .ref r1, .int x2] M K := by
  show mm_W mX2_read (d + 1) 0 0 0 [(0, .ref 4), (1, .ref r1), (2, .int x2)] [] mm_SH M 0 0 (mm_PV K)
  refine mm_aload_n (pc := 0) (j := 0) dX2_read_0 rfl rfl ?_
  refine mm_iconst (pc := 1) (x := 0) dX2_read_1 rfl ?_
  refine mm_putI (pc := 2) (ci := 2) (N := 3) dX2_read_2 fX2_25 sh_4 (by decide +kernel) rfl rfl rfl ?_
  refine mm_aload_n (pc := 5) (j := 0) dX2_read_5 rfl rfl ?_
  refine mm_getR (pc := 6) (ci := 2) (N := 3) (r := 5) dX2_read_6 fX2_14 sh_4 rfl (g_4_0 hG) ?_
  refine mm_aload_n (pc := 9) (j := 1) dX2_read_9 rfl rfl ?_
  refine mm_iload_n (pc := 10) (j := 2) dX2_read_10 rfl rfl ?_
  refine mm_aload_n (pc := 11) (j := 0) dX2_read_11 rfl rfl ?_
  obtain ⟨q12, he12, hq12, h⟩ := h
  refine mm_getR (pc := 12) (ci := 2) (N := 3) (r := q12) dX2_read_12 fX2_21 sh_4 rfl he12 ?_
  refine mm_getR (pc := 15) (ci := 7) (N := 11) (r := q12 + 5) dX2_read_15 fX2_29 (sh_Rl hq12) rfl (g_Rl_8 hG hq12) ?_
  refine mm_aload_n (pc := 18) (j := 0) dX2_read_18 rfl rfl ?_
  obtain ⟨q19, he19, hq19, h⟩ := h
  refine mm_getR (pc := 19) (ci := 2) (N := 3) (r := q19) dX2_read_19 fX2_21 sh_4 rfl he19 ?_
  refine mm_kVI (pc := 22) [] dX2_read_22 kX2_33 rfl (sh_Rl hq19) (Nat.le_of_ble_eq_true rfl) (Nat.le_of_ble_eq_true rfl) h (fun z22 m22 hG h => ?_)
  refine mm_kVV (pc := 25) [.ref r1, .int x2, .ref (q12 + 5), .int z22] dX2_read_25 kX2_37 rfl sh_5 (Nat.le_of_ble_eq_true rfl) (Nat.le_of_ble_eq_true rfl) h (fun m25 hG h => ?_)
  refine mm_iconst (pc := 28) (x := 0) dX2_read_28 rfl ?_
  refine mm_istore_n (pc := 29) (lv' := [(3, .int 0), (0, .ref 4), (1, .ref r1), (2, .int x2)]) dX2_read_29 rfl (by decide) rfl ?_
  exact mm_sub [1, 0] rfl h
set_option maxRecDepth 100000 in
set_option maxHeartbeats 4000000 in
theorem lX2_read_30 {d : Nat} {r1 : Nat} {n1 : Nat} {x2 : Int32} {M : mm_M} {K : mm_M → Prop} {y3 : Int32} (hr1 : mm_SH[r1]? = some (0, n1)) (hG : mm_G M.2.2) (h : if 60 < y3 then (∃ q291 : Nat, M.2.2 4 1 = some q291 ∧ q291 ∈ mm_Rls ∧ if (M.1 q291 0) = 0 then (mm_CV mX6_refuse d [.ref 5, .int 1, .int (M.1 5 1)] M (fun m312 => K m312)) else (K M)) else (if (M.1 5 8) = 0 then (if (M.1 5 3) = 0 then (∃ q291 : Nat, M.2.2 4 1 = some q291 ∧ q291 ∈ mm_Rls ∧ if (M.1 q291 0) = 0 then (mm_CV mX6_refuse d [.ref 5, .int 1, .int (M.1 5 1)] M (fun m312 => K m312)) else (K M)) else (if y3 = 60 then (mm_CV mX6_refuse d [.ref 5, .int 5, .int (M.1 5 4)] M (fun m83 => mm_CV mX6_expectSign d [.ref 5, .int 59] m83 (fun m268 => ∃ q272 : Nat, m268.2.2 4 1 = some q272 ∧ q272 ∈ mm_Rls ∧ jX2_read_30 d r1 n1 x2 (mm_uI m268 q272 0 ((m268.1 q272 0) + 1)) K (y3 + 1)))) else (if y3 = 0 then (if (M.1 5 5) = 0 then (jX2_read_108 d r1 n1 x2 M K y3 (M.1 5 5) 1 1) else (jX2_read_108 d r1 n1 x2 M K y3 (M.1 5 5) 0 1)) else (if (M.1 5 5) = 0 then (jX2_read_108 d r1 n1 x2 M K y3 (M.1 5 5) 1 0) else (jX2_read_108 d r1 n1 x2 M K y3 (M.1 5 5) 0 0))))) else (∃ q291 : Nat, M.2.2 4 1 = some q291 ∧ q291 ∈ mm_Rls ∧ if (M.1 q291 0) = 0 then (mm_CV mX6_refuse d [.ref 5, .int 1, .int (M.1 5 1)] M (fun m312 => K m312)) else (K M)))) : jX2_read_30 d r1 n1 x2 M K y3 := by
  unfold jX2_read_30
  refine mm_iload_n (pc := 30) (j := 1) dX2_read_30 rfl rfl ?_
  refine mm_bipush (pc := 31) (x := 60) dX2_read_31 rfl ?_
  refine mm_icmp_gt (pc := 33) (tgt := 290) dX2_read_33 (by decide) (fun hc => ?_) (fun hc => ?_)
  · have h := mm_ift hc h
    refine mm_aload_n (pc := 290) (j := 0) dX2_read_290 rfl rfl ?_
    obtain ⟨q291, he291, hq291, h⟩ := h
    refine mm_getR (pc := 291) (ci := 2) (N := 3) (r := q291) dX2_read_291 fX2_21 sh_4 rfl he291 ?_
    refine mm_getI (pc := 294) (ci := 7) (N := 11) dX2_read_294 fX2_84 (sh_Rl hq291) rfl ?_
    refine mm_if_ne (pc := 297) (tgt := 315) dX2_read_297 (by decide) (fun hc => ?_) (fun hc => ?_)
    · have h := mm_iff hc h
      exact mm_vret (pc := 315) dX2_read_315 rfl (Nat.le_refl 0) (Nat.le_refl 0) ⟨rfl, rfl, hG, h⟩
    · have h := mm_ift hc h
      refine mm_aload_n (pc := 300) (j := 0) dX2_read_300 rfl rfl ?_
      refine mm_getR (pc := 301) (ci := 2) (N := 3) (r := 5) dX2_read_301 fX2_14 sh_4 rfl (g_4_0 hG) ?_
      refine mm_iconst (pc := 304) (x := 1) dX2_read_304 rfl ?_
      refine mm_aload_n (pc := 305) (j := 0) dX2_read_305 rfl rfl ?_
      refine mm_getR (pc := 306) (ci := 2) (N := 3) (r := 5) dX2_read_306 fX2_14 sh_4 rfl (g_4_0 hG) ?_
      refine mm_getI (pc := 309) (ci := 6) (N := 15) dX2_read_309 fX2_87 sh_5 rfl ?_
      refine mm_kVV (pc := 312) [.int 1, .int (M.1 5 1)] dX2_read_312 kX2_53 rfl sh_5 (Nat.le_of_ble_eq_true rfl) (Nat.le_of_ble_eq_true rfl) h (fun m312 hG h => ?_)
      exact mm_vret (pc := 315) dX2_read_315 rfl (Nat.le_refl 0) (Nat.le_refl 0) ⟨rfl, rfl, hG, h⟩
  · have h := mm_iff hc h
    refine mm_aload_n (pc := 36) (j := 0) dX2_read_36 rfl rfl ?_
    refine mm_getR (pc := 37) (ci := 2) (N := 3) (r := 5) dX2_read_37 fX2_14 sh_4 rfl (g_4_0 hG) ?_
    refine mm_getI (pc := 40) (ci := 6) (N := 15) dX2_read_40 fX2_41 sh_5 rfl ?_
    refine mm_if_ne (pc := 43) (tgt := 290) dX2_read_43 (by decide) (fun hc => ?_) (fun hc => ?_)
    · have h := mm_iff hc h
      refine mm_aload_n (pc := 290) (j := 0) dX2_read_290 rfl rfl ?_
      obtain ⟨q291, he291, hq291, h⟩ := h
      refine mm_getR (pc := 291) (ci := 2) (N := 3) (r := q291) dX2_read_291 fX2_21 sh_4 rfl he291 ?_
      refine mm_getI (pc := 294) (ci := 7) (N := 11) dX2_read_294 fX2_84 (sh_Rl hq291) rfl ?_
      refine mm_if_ne (pc := 297) (tgt := 315) dX2_read_297 (by decide) (fun hc => ?_) (fun hc => ?_)
      · have h := mm_iff hc h
        exact mm_vret (pc := 315) dX2_read_315 rfl (Nat.le_refl 0) (Nat.le_refl 0) ⟨rfl, rfl, hG, h⟩
      · have h := mm_ift hc h
        refine mm_aload_n (pc := 300) (j := 0) dX2_read_300 rfl rfl ?_
        refine mm_getR (pc := 301) (ci := 2) (N := 3) (r := 5) dX2_read_301 fX2_14 sh_4 rfl (g_4_0 hG) ?_
        refine mm_iconst (pc := 304) (x := 1) dX2_read_304 rfl ?_
        refine mm_aload_n (pc := 305) (j := 0) dX2_read_305 rfl rfl ?_
        refine mm_getR (pc := 306) (ci := 2) (N := 3) (r := 5) dX2_read_306 fX2_14 sh_4 rfl (g_4_0 hG) ?_
        refine mm_getI (pc := 309) (ci := 6) (N := 15) dX2_read_309 fX2_87 sh_5 rfl ?_
        refine mm_kVV (pc := 312) [.int 1, .int (M.1 5 1)] dX2_read_312 kX2_53 rfl sh_5 (Nat.le_of_ble_eq_true rfl) (Nat.le_of_ble_eq_true rfl) h (fun m312 hG h => ?_)
        exact mm_vret (pc := 315) dX2_read_315 rfl (Nat.le_refl 0) (Nat.le_refl 0) ⟨rfl, rfl, hG, h⟩
    · have h := mm_ift hc h
      refine mm_aload_n (pc := 46) (j := 0) dX2_read_46 rfl rfl ?_
      refine mm_getR (pc := 47) (ci := 2) (N := 3) (r := 5) dX2_read_47 fX2_14 sh_4 rfl (g_4_0 hG) ?_
      refine mm_getI (pc := 50) (ci := 6) (N := 15) dX2_read_50 fX2_44 sh_5 rfl ?_
      refine mm_if_eq (pc := 53) (tgt := 290) dX2_read_53 (by decide) (fun hc => ?_) (fun hc => ?_)
      · have h := mm_ift hc h
        refine mm_aload_n (pc := 290) (j := 0) dX2_read_290 rfl rfl ?_
        obtain ⟨q291, he291, hq291, h⟩ := h
        refine mm_getR (pc := 291) (ci := 2) (N := 3) (r := q291) dX2_read_291 fX2_21 sh_4 rfl he291 ?_
        refine mm_getI (pc := 294) (ci := 7) (N := 11) dX2_read_294 fX2_84 (sh_Rl hq291) rfl ?_
        refine mm_if_ne (pc := 297) (tgt := 315) dX2_read_297 (by decide) (fun hc => ?_) (fun hc => ?_)
        · have h := mm_iff hc h
          exact mm_vret (pc := 315) dX2_read_315 rfl (Nat.le_refl 0) (Nat.le_refl 0) ⟨rfl, rfl, hG, h⟩
        · have h := mm_ift hc h
          refine mm_aload_n (pc := 300) (j := 0) dX2_read_300 rfl rfl ?_
          refine mm_getR (pc := 301) (ci := 2) (N := 3) (r := 5) dX2_read_301 fX2_14 sh_4 rfl (g_4_0 hG) ?_
          refine mm_iconst (pc := 304) (x := 1) dX2_read_304 rfl ?_
          refine mm_aload_n (pc := 305) (j := 0) dX2_read_305 rfl rfl ?_
          refine mm_getR (pc := 306) (ci := 2) (N := 3) (r := 5) dX2_read_306 fX2_14 sh_4 rfl (g_4_0 hG) ?_
          refine mm_getI (pc := 309) (ci := 6) (N := 15) dX2_read_309 fX2_87 sh_5 rfl ?_
          refine mm_kVV (pc := 312) [.int 1, .int (M.1 5 1)] dX2_read_312 kX2_53 rfl sh_5 (Nat.le_of_ble_eq_true rfl) (Nat.le_of_ble_eq_true rfl) h (fun m312 hG h => ?_)
          exact mm_vret (pc := 315) dX2_read_315 rfl (Nat.le_refl 0) (Nat.le_refl 0) ⟨rfl, rfl, hG, h⟩
      · have h := mm_iff hc h
        refine mm_aload_n (pc := 56) (j := 0) dX2_read_56 rfl rfl ?_
        refine mm_getR (pc := 57) (ci := 2) (N := 3) (r := 5) dX2_read_57 fX2_14 sh_4 rfl (g_4_0 hG) ?_
        refine mm_getI (pc := 60) (ci := 6) (N := 15) dX2_read_60 fX2_47 sh_5 rfl ?_
        refine mm_istore (pc := 63) (lv' := [(4, .int (M.1 5 5)), (0, .ref 4), (3, .int y3)]) dX2_read_63 (by decide) rfl ?_
        refine mm_iload_n (pc := 65) (j := 2) dX2_read_65 rfl rfl ?_
        refine mm_bipush (pc := 66) (x := 60) dX2_read_66 rfl ?_
        refine mm_icmp_ne (pc := 68) (tgt := 89) dX2_read_68 (by decide) (fun hc => ?_) (fun hc => ?_)
        · have h := mm_iff hc h
          refine mm_iload_n (pc := 89) (j := 2) dX2_read_89 rfl rfl ?_
          refine mm_if_ne (pc := 90) (tgt := 97) dX2_read_90 (by decide) (fun hc => ?_) (fun hc => ?_)
          · have h := mm_iff hc h
            refine mm_iconst (pc := 97) (x := 0) dX2_read_97 rfl ?_
            refine mm_iload (pc := 98) (j := 0) dX2_read_98 rfl ?_
            refine mm_if_ne (pc := 100) (tgt := 107) dX2_read_100 (by decide) (fun hc => ?_) (fun hc => ?_)
            · have h := mm_iff hc h
              refine mm_iconst (pc := 107) (x := 0) dX2_read_107 rfl ?_
              exact mm_sub [1, 2, 0] rfl h
            · have h := mm_ift hc h
              refine mm_iconst (pc := 103) (x := 1) dX2_read_103 rfl ?_
              refine mm_goto (pc := 104) (tgt := 108) dX2_read_104 (by decide) ?_
              exact mm_sub [1, 2, 0] rfl h
          · have h := mm_ift hc h
            refine mm_iconst (pc := 93) (x := 1) dX2_read_93 rfl ?_
            refine mm_goto (pc := 94) (tgt := 98) dX2_read_94 (by decide) ?_
            refine mm_iload (pc := 98) (j := 0) dX2_read_98 rfl ?_
            refine mm_if_ne (pc := 100) (tgt := 107) dX2_read_100 (by decide) (fun hc => ?_) (fun hc => ?_)
            · have h := mm_iff hc h
              refine mm_iconst (pc := 107) (x := 0) dX2_read_107 rfl ?_
              exact mm_sub [1, 2, 0] rfl h
            · have h := mm_ift hc h
              refine mm_iconst (pc := 103) (x := 1) dX2_read_103 rfl ?_
              refine mm_goto (pc := 104) (tgt := 108) dX2_read_104 (by decide) ?_
              exact mm_sub [1, 2, 0] rfl h
        · have h := mm_ift hc h
          refine mm_aload_n (pc := 71) (j := 1) dX2_read_71 rfl rfl ?_
          refine mm_getR (pc := 72) (ci := 2) (N := 3) (r := 5) dX2_read_72 fX2_14 sh_4 rfl (g_4_0 hG) ?_
          refine mm_iconst (pc := 75) (x := 5) dX2_read_75 rfl ?_
          refine mm_aload_n (pc := 76) (j := 1) dX2_read_76 rfl rfl ?_
          refine mm_getR (pc := 77) (ci := 2) (N := 3) (r := 5) dX2_read_77 fX2_14 sh_4 rfl (g_4_0 hG) ?_
          refine mm_getI (pc := 80) (ci := 6) (N := 15) dX2_read_80 fX2_50 sh_5 rfl ?_
          refine mm_kVV (pc := 83) [.int 5, .int (M.1 5 4)] dX2_read_83 kX2_53 rfl sh_5 (Nat.le_of_ble_eq_true rfl) (Nat.le_of_ble_eq_true rfl) h (fun m83 hG h => ?_)
          refine mm_goto (pc := 86) (tgt := 262) dX2_read_86 (by decide) ?_
          refine mm_aload_n (pc := 262) (j := 1) dX2_read_262 rfl rfl ?_
          refine mm_getR (pc := 263) (ci := 2) (N := 3) (r := 5) dX2_read_263 fX2_14 sh_4 rfl (g_4_0 hG) ?_
          refine mm_bipush (pc := 266) (x := 59) dX2_read_266 rfl ?_
          refine mm_kVV (pc := 268) [.int 59] dX2_read_268 kX2_80 rfl sh_5 (Nat.le_of_ble_eq_true rfl) (Nat.le_of_ble_eq_true rfl) h (fun m268 hG h => ?_)
          refine mm_aload_n (pc := 271) (j := 1) dX2_read_271 rfl rfl ?_
          obtain ⟨q272, he272, hq272, h⟩ := h
          refine mm_getR (pc := 272) (ci := 2) (N := 3) (r := q272) dX2_read_272 fX2_21 sh_4 rfl he272 ?_
          refine mm_dup (pc := 275) dX2_read_275 rfl ?_
          refine mm_getI (pc := 276) (ci := 7) (N := 11) dX2_read_276 fX2_84 (sh_Rl hq272) rfl ?_
          refine mm_iconst (pc := 279) (x := 1) dX2_read_279 rfl ?_
          refine mm_iadd (pc := 280) dX2_read_280 ?_
          refine mm_putI (pc := 281) (ci := 7) (N := 11) dX2_read_281 fX2_84 (sh_Rl hq272) (by decide +kernel) rfl rfl rfl ?_
          refine mm_iinc (pc := 284) (j := 2) (v := y3 + 1) (lv' := [(3, .int (y3 + 1)), (4, .int (M.1 5 5)), (0, .ref 4)]) dX2_read_284 rfl rfl (by decide) rfl ?_
          refine mm_goto (pc := 287) (tgt := 30) dX2_read_287 (by decide) ?_
          exact mm_sub [2, 0] rfl h
set_option maxRecDepth 100000 in
set_option maxHeartbeats 4000000 in
theorem lX2_read_108 {d : Nat} {r1 : Nat} {n1 : Nat} {x2 : Int32} {M : mm_M} {K : mm_M → Prop} {y3 : Int32} {y4 : Int32} {u0 : Int32} {u1 : Int32} (hr1 : mm_SH[r1]? = some (0, n1)) (hG : mm_G M.2.2) (h : if u1 = u0 then (if y4 = 0 then (mm_CV mX6_next d [.ref 5] M (fun m138 => ∃ q142 : Nat, m138.2.2 4 1 = some q142 ∧ q142 ∈ mm_Rls ∧ mm_CI mX6_takeNumber d [.ref 5, .int 1, .int 20] m138 (fun z152 m152 => mm_CV mX6_expectSign d [.ref 5, .int 59] (mm_uI m152 q142 1 z152) (fun m268 => ∃ q272 : Nat, m268.2.2 4 1 = some q272 ∧ q272 ∈ mm_Rls ∧ jX2_read_30 d r1 n1 x2 (mm_uI m268 q272 0 ((m268.1 q272 0) + 1)) K (y3 + 1))))) else (if y4 = 1 then (mm_CV mX2_readHouse d [.ref 4] M (fun m168 => mm_CV mX6_expectSign d [.ref 5, .int 59] m168 (fun m268 => ∃ q272 : Nat, m268.2.2 4 1 = some q272 ∧ q272 ∈ mm_Rls ∧ jX2_read_30 d r1 n1 x2 (mm_uI m268 q272 0 ((m268.1 q272 0) + 1)) K (y3 + 1)))) else (if y4 = 4 then (mm_CV mX2_readFeud d [.ref 4] M (fun m181 => mm_CV mX6_expectSign d [.ref 5, .int 59] m181 (fun m268 => ∃ q272 : Nat, m268.2.2 4 1 = some q272 ∧ q272 ∈ mm_Rls ∧ jX2_read_30 d r1 n1 x2 (mm_uI m268 q272 0 ((m268.1 q272 0) + 1)) K (y3 + 1)))) else (if y4 < 7 then (jX2_read_213 d r1 n1 x2 M K y3 y4) else (if 11 < y4 then (jX2_read_213 d r1 n1 x2 M K y3 y4) else (mm_CV mX2_readRule d [.ref 4, .int (y4 - 7)] M (fun m207 => mm_CV mX6_expectSign d [.ref 5, .int 59] m207 (fun m268 => ∃ q272 : Nat, m268.2.2 4 1 = some q272 ∧ q272 ∈ mm_Rls ∧ jX2_read_30 d r1 n1 x2 (mm_uI m268 q272 0 ((m268.1 q272 0) + 1)) K (y3 + 1))))))))) else (mm_CV mX6_refuse d [.ref 5, .int 1, .int (M.1 5 4)] M (fun m123 => mm_CV mX6_expectSign d [.ref 5, .int 59] m123 (fun m268 => ∃ q272 : Nat, m268.2.2 4 1 = some q272 ∧ q272 ∈ mm_Rls ∧ jX2_read_30 d r1 n1 x2 (mm_uI m268 q272 0 ((m268.1 q272 0) + 1)) K (y3 + 1))))) : jX2_read_108 d r1 n1 x2 M K y3 y4 u0 u1 := by
  unfold jX2_read_108
  refine mm_icmp_eq (pc := 108) (tgt := 129) dX2_read_108 (by decide) (fun hc => ?_) (fun hc => ?_)
  · have h := mm_ift hc h
    refine mm_iload (pc := 129) (j := 2) dX2_read_129 rfl ?_
    refine mm_if_ne (pc := 131) (tgt := 161) dX2_read_131 (by decide) (fun hc => ?_) (fun hc => ?_)
    · have h := mm_iff hc h
      refine mm_iload (pc := 161) (j := 2) dX2_read_161 rfl ?_
      refine mm_iconst (pc := 163) (x := 1) dX2_read_163 rfl ?_
      refine mm_icmp_ne (pc := 164) (tgt := 174) dX2_read_164 (by decide) (fun hc => ?_) (fun hc => ?_)
      · have h := mm_iff hc h
        refine mm_iload (pc := 174) (j := 2) dX2_read_174 rfl ?_
        refine mm_iconst (pc := 176) (x := 4) dX2_read_176 rfl ?_
        refine mm_icmp_ne (pc := 177) (tgt := 187) dX2_read_177 (by decide) (fun hc => ?_) (fun hc => ?_)
        · have h := mm_iff hc h
          refine mm_iload (pc := 187) (j := 2) dX2_read_187 rfl ?_
          refine mm_bipush (pc := 189) (x := 7) dX2_read_189 rfl ?_
          refine mm_icmp_lt (pc := 191) (tgt := 213) dX2_read_191 (by decide) (fun hc => ?_) (fun hc => ?_)
          · have h := mm_ift hc h
            exact h
          · have h := mm_iff hc h
            refine mm_iload (pc := 194) (j := 2) dX2_read_194 rfl ?_
            refine mm_bipush (pc := 196) (x := 11) dX2_read_196 rfl ?_
            refine mm_icmp_gt (pc := 198) (tgt := 213) dX2_read_198 (by decide) (fun hc => ?_) (fun hc => ?_)
            · have h := mm_ift hc h
              exact h
            · have h := mm_iff hc h
              refine mm_aload_n (pc := 201) (j := 0) dX2_read_201 rfl rfl ?_
              refine mm_iload (pc := 202) (j := 2) dX2_read_202 rfl ?_
              refine mm_bipush (pc := 204) (x := 7) dX2_read_204 rfl ?_
              refine mm_isub (pc := 206) dX2_read_206 ?_
              refine mm_kVV (pc := 207) [.int (y4 - 7)] dX2_read_207 kX2_73 rfl sh_4 (Nat.le_of_ble_eq_true rfl) (Nat.le_of_ble_eq_true rfl) h (fun m207 hG h => ?_)
              refine mm_goto (pc := 210) (tgt := 262) dX2_read_210 (by decide) ?_
              refine mm_aload_n (pc := 262) (j := 0) dX2_read_262 rfl rfl ?_
              refine mm_getR (pc := 263) (ci := 2) (N := 3) (r := 5) dX2_read_263 fX2_14 sh_4 rfl (g_4_0 hG) ?_
              refine mm_bipush (pc := 266) (x := 59) dX2_read_266 rfl ?_
              refine mm_kVV (pc := 268) [.int 59] dX2_read_268 kX2_80 rfl sh_5 (Nat.le_of_ble_eq_true rfl) (Nat.le_of_ble_eq_true rfl) h (fun m268 hG h => ?_)
              refine mm_aload_n (pc := 271) (j := 0) dX2_read_271 rfl rfl ?_
              obtain ⟨q272, he272, hq272, h⟩ := h
              refine mm_getR (pc := 272) (ci := 2) (N := 3) (r := q272) dX2_read_272 fX2_21 sh_4 rfl he272 ?_
              refine mm_dup (pc := 275) dX2_read_275 rfl ?_
              refine mm_getI (pc := 276) (ci := 7) (N := 11) dX2_read_276 fX2_84 (sh_Rl hq272) rfl ?_
              refine mm_iconst (pc := 279) (x := 1) dX2_read_279 rfl ?_
              refine mm_iadd (pc := 280) dX2_read_280 ?_
              refine mm_putI (pc := 281) (ci := 7) (N := 11) dX2_read_281 fX2_84 (sh_Rl hq272) (by decide +kernel) rfl rfl rfl ?_
              refine mm_iinc (pc := 284) (j := 1) (v := y3 + 1) (lv' := [(3, .int (y3 + 1)), (0, .ref 4), (4, .int y4)]) dX2_read_284 rfl rfl (by decide) rfl ?_
              refine mm_goto (pc := 287) (tgt := 30) dX2_read_287 (by decide) ?_
              exact mm_sub [1, 0] rfl h
        · have h := mm_ift hc h
          refine mm_aload_n (pc := 180) (j := 0) dX2_read_180 rfl rfl ?_
          refine mm_kVV (pc := 181) [] dX2_read_181 kX2_70 rfl sh_4 (Nat.le_of_ble_eq_true rfl) (Nat.le_of_ble_eq_true rfl) h (fun m181 hG h => ?_)
          refine mm_goto (pc := 184) (tgt := 262) dX2_read_184 (by decide) ?_
          refine mm_aload_n (pc := 262) (j := 0) dX2_read_262 rfl rfl ?_
          refine mm_getR (pc := 263) (ci := 2) (N := 3) (r := 5) dX2_read_263 fX2_14 sh_4 rfl (g_4_0 hG) ?_
          refine mm_bipush (pc := 266) (x := 59) dX2_read_266 rfl ?_
          refine mm_kVV (pc := 268) [.int 59] dX2_read_268 kX2_80 rfl sh_5 (Nat.le_of_ble_eq_true rfl) (Nat.le_of_ble_eq_true rfl) h (fun m268 hG h => ?_)
          refine mm_aload_n (pc := 271) (j := 0) dX2_read_271 rfl rfl ?_
          obtain ⟨q272, he272, hq272, h⟩ := h
          refine mm_getR (pc := 272) (ci := 2) (N := 3) (r := q272) dX2_read_272 fX2_21 sh_4 rfl he272 ?_
          refine mm_dup (pc := 275) dX2_read_275 rfl ?_
          refine mm_getI (pc := 276) (ci := 7) (N := 11) dX2_read_276 fX2_84 (sh_Rl hq272) rfl ?_
          refine mm_iconst (pc := 279) (x := 1) dX2_read_279 rfl ?_
          refine mm_iadd (pc := 280) dX2_read_280 ?_
          refine mm_putI (pc := 281) (ci := 7) (N := 11) dX2_read_281 fX2_84 (sh_Rl hq272) (by decide +kernel) rfl rfl rfl ?_
          refine mm_iinc (pc := 284) (j := 1) (v := y3 + 1) (lv' := [(3, .int (y3 + 1)), (0, .ref 4), (4, .int y4)]) dX2_read_284 rfl rfl (by decide) rfl ?_
          refine mm_goto (pc := 287) (tgt := 30) dX2_read_287 (by decide) ?_
          exact mm_sub [1, 0] rfl h
      · have h := mm_ift hc h
        refine mm_aload_n (pc := 167) (j := 0) dX2_read_167 rfl rfl ?_
        refine mm_kVV (pc := 168) [] dX2_read_168 kX2_67 rfl sh_4 (Nat.le_of_ble_eq_true rfl) (Nat.le_of_ble_eq_true rfl) h (fun m168 hG h => ?_)
        refine mm_goto (pc := 171) (tgt := 262) dX2_read_171 (by decide) ?_
        refine mm_aload_n (pc := 262) (j := 0) dX2_read_262 rfl rfl ?_
        refine mm_getR (pc := 263) (ci := 2) (N := 3) (r := 5) dX2_read_263 fX2_14 sh_4 rfl (g_4_0 hG) ?_
        refine mm_bipush (pc := 266) (x := 59) dX2_read_266 rfl ?_
        refine mm_kVV (pc := 268) [.int 59] dX2_read_268 kX2_80 rfl sh_5 (Nat.le_of_ble_eq_true rfl) (Nat.le_of_ble_eq_true rfl) h (fun m268 hG h => ?_)
        refine mm_aload_n (pc := 271) (j := 0) dX2_read_271 rfl rfl ?_
        obtain ⟨q272, he272, hq272, h⟩ := h
        refine mm_getR (pc := 272) (ci := 2) (N := 3) (r := q272) dX2_read_272 fX2_21 sh_4 rfl he272 ?_
        refine mm_dup (pc := 275) dX2_read_275 rfl ?_
        refine mm_getI (pc := 276) (ci := 7) (N := 11) dX2_read_276 fX2_84 (sh_Rl hq272) rfl ?_
        refine mm_iconst (pc := 279) (x := 1) dX2_read_279 rfl ?_
        refine mm_iadd (pc := 280) dX2_read_280 ?_
        refine mm_putI (pc := 281) (ci := 7) (N := 11) dX2_read_281 fX2_84 (sh_Rl hq272) (by decide +kernel) rfl rfl rfl ?_
        refine mm_iinc (pc := 284) (j := 1) (v := y3 + 1) (lv' := [(3, .int (y3 + 1)), (0, .ref 4), (4, .int y4)]) dX2_read_284 rfl rfl (by decide) rfl ?_
        refine mm_goto (pc := 287) (tgt := 30) dX2_read_287 (by decide) ?_
        exact mm_sub [1, 0] rfl h
    · have h := mm_ift hc h
      refine mm_aload_n (pc := 134) (j := 0) dX2_read_134 rfl rfl ?_
      refine mm_getR (pc := 135) (ci := 2) (N := 3) (r := 5) dX2_read_135 fX2_14 sh_4 rfl (g_4_0 hG) ?_
      refine mm_kVV (pc := 138) [] dX2_read_138 kX2_57 rfl sh_5 (Nat.le_of_ble_eq_true rfl) (Nat.le_of_ble_eq_true rfl) h (fun m138 hG h => ?_)
      refine mm_aload_n (pc := 141) (j := 0) dX2_read_141 rfl rfl ?_
      obtain ⟨q142, he142, hq142, h⟩ := h
      refine mm_getR (pc := 142) (ci := 2) (N := 3) (r := q142) dX2_read_142 fX2_21 sh_4 rfl he142 ?_
      refine mm_aload_n (pc := 145) (j := 0) dX2_read_145 rfl rfl ?_
      refine mm_getR (pc := 146) (ci := 2) (N := 3) (r := 5) dX2_read_146 fX2_14 sh_4 rfl (g_4_0 hG) ?_
      refine mm_iconst (pc := 149) (x := 1) dX2_read_149 rfl ?_
      refine mm_bipush (pc := 150) (x := 20) dX2_read_150 rfl ?_
      refine mm_kVI (pc := 152) [.int 1, .int 20] dX2_read_152 kX2_60 rfl sh_5 (Nat.le_of_ble_eq_true rfl) (Nat.le_of_ble_eq_true rfl) h (fun z152 m152 hG h => ?_)
      refine mm_putI (pc := 155) (ci := 7) (N := 11) dX2_read_155 fX2_64 (sh_Rl hq142) (by decide +kernel) rfl rfl rfl ?_
      refine mm_goto (pc := 158) (tgt := 262) dX2_read_158 (by decide) ?_
      refine mm_aload_n (pc := 262) (j := 0) dX2_read_262 rfl rfl ?_
      refine mm_getR (pc := 263) (ci := 2) (N := 3) (r := 5) dX2_read_263 fX2_14 sh_4 rfl (g_4_0 hG) ?_
      refine mm_bipush (pc := 266) (x := 59) dX2_read_266 rfl ?_
      refine mm_kVV (pc := 268) [.int 59] dX2_read_268 kX2_80 rfl sh_5 (Nat.le_of_ble_eq_true rfl) (Nat.le_of_ble_eq_true rfl) h (fun m268 hG h => ?_)
      refine mm_aload_n (pc := 271) (j := 0) dX2_read_271 rfl rfl ?_
      obtain ⟨q272, he272, hq272, h⟩ := h
      refine mm_getR (pc := 272) (ci := 2) (N := 3) (r := q272) dX2_read_272 fX2_21 sh_4 rfl he272 ?_
      refine mm_dup (pc := 275) dX2_read_275 rfl ?_
      refine mm_getI (pc := 276) (ci := 7) (N := 11) dX2_read_276 fX2_84 (sh_Rl hq272) rfl ?_
      refine mm_iconst (pc := 279) (x := 1) dX2_read_279 rfl ?_
      refine mm_iadd (pc := 280) dX2_read_280 ?_
      refine mm_putI (pc := 281) (ci := 7) (N := 11) dX2_read_281 fX2_84 (sh_Rl hq272) (by decide +kernel) rfl rfl rfl ?_
      refine mm_iinc (pc := 284) (j := 1) (v := y3 + 1) (lv' := [(3, .int (y3 + 1)), (0, .ref 4), (4, .int y4)]) dX2_read_284 rfl rfl (by decide) rfl ?_
      refine mm_goto (pc := 287) (tgt := 30) dX2_read_287 (by decide) ?_
      exact mm_sub [1, 0] rfl h
  · have h := mm_iff hc h
    refine mm_aload_n (pc := 111) (j := 0) dX2_read_111 rfl rfl ?_
    refine mm_getR (pc := 112) (ci := 2) (N := 3) (r := 5) dX2_read_112 fX2_14 sh_4 rfl (g_4_0 hG) ?_
    refine mm_iconst (pc := 115) (x := 1) dX2_read_115 rfl ?_
    refine mm_aload_n (pc := 116) (j := 0) dX2_read_116 rfl rfl ?_
    refine mm_getR (pc := 117) (ci := 2) (N := 3) (r := 5) dX2_read_117 fX2_14 sh_4 rfl (g_4_0 hG) ?_
    refine mm_getI (pc := 120) (ci := 6) (N := 15) dX2_read_120 fX2_50 sh_5 rfl ?_
    refine mm_kVV (pc := 123) [.int 1, .int (M.1 5 4)] dX2_read_123 kX2_53 rfl sh_5 (Nat.le_of_ble_eq_true rfl) (Nat.le_of_ble_eq_true rfl) h (fun m123 hG h => ?_)
    refine mm_goto (pc := 126) (tgt := 262) dX2_read_126 (by decide) ?_
    refine mm_aload_n (pc := 262) (j := 0) dX2_read_262 rfl rfl ?_
    refine mm_getR (pc := 263) (ci := 2) (N := 3) (r := 5) dX2_read_263 fX2_14 sh_4 rfl (g_4_0 hG) ?_
    refine mm_bipush (pc := 266) (x := 59) dX2_read_266 rfl ?_
    refine mm_kVV (pc := 268) [.int 59] dX2_read_268 kX2_80 rfl sh_5 (Nat.le_of_ble_eq_true rfl) (Nat.le_of_ble_eq_true rfl) h (fun m268 hG h => ?_)
    refine mm_aload_n (pc := 271) (j := 0) dX2_read_271 rfl rfl ?_
    obtain ⟨q272, he272, hq272, h⟩ := h
    refine mm_getR (pc := 272) (ci := 2) (N := 3) (r := q272) dX2_read_272 fX2_21 sh_4 rfl he272 ?_
    refine mm_dup (pc := 275) dX2_read_275 rfl ?_
    refine mm_getI (pc := 276) (ci := 7) (N := 11) dX2_read_276 fX2_84 (sh_Rl hq272) rfl ?_
    refine mm_iconst (pc := 279) (x := 1) dX2_read_279 rfl ?_
    refine mm_iadd (pc := 280) dX2_read_280 ?_
    refine mm_putI (pc := 281) (ci := 7) (N := 11) dX2_read_281 fX2_84 (sh_Rl hq272) (by decide +kernel) rfl rfl rfl ?_
    refine mm_iinc (pc := 284) (j := 1) (v := y3 + 1) (lv' := [(3, .int (y3 + 1)), (0, .ref 4), (4, .int y4)]) dX2_read_284 rfl rfl (by decide) rfl ?_
    refine mm_goto (pc := 287) (tgt := 30) dX2_read_287 (by decide) ?_
    exact mm_sub [1, 0] rfl h
set_option maxRecDepth 100000 in
set_option maxHeartbeats 4000000 in
theorem lX2_read_213 {d : Nat} {r1 : Nat} {n1 : Nat} {x2 : Int32} {M : mm_M} {K : mm_M → Prop} {y3 : Int32} {y4 : Int32} (hr1 : mm_SH[r1]? = some (0, n1)) (hG : mm_G M.2.2) (h : if y4 = 12 then (mm_CV mX6_next d [.ref 5] M (fun m224 => ∃ q228 : Nat, m224.2.2 4 1 = some q228 ∧ q228 ∈ mm_Rls ∧ mm_CI mX6_takeNumber d [.ref 5, .int 0, .int 100] m224 (fun z238 m238 => mm_CV mX6_expectSign d [.ref 5, .int 59] (mm_uI m238 q228 3 z238) (fun m268 => ∃ q272 : Nat, m268.2.2 4 1 = some q272 ∧ q272 ∈ mm_Rls ∧ jX2_read_30 d r1 n1 x2 (mm_uI m268 q272 0 ((m268.1 q272 0) + 1)) K (y3 + 1))))) else (mm_CV mX6_refuse d [.ref 5, .int 1, .int (M.1 5 4)] M (fun m259 => mm_CV mX6_expectSign d [.ref 5, .int 59] m259 (fun m268 => ∃ q272 : Nat, m268.2.2 4 1 = some q272 ∧ q272 ∈ mm_Rls ∧ jX2_read_30 d r1 n1 x2 (mm_uI m268 q272 0 ((m268.1 q272 0) + 1)) K (y3 + 1))))) : jX2_read_213 d r1 n1 x2 M K y3 y4 := by
  unfold jX2_read_213
  refine mm_iload (pc := 213) (j := 2) dX2_read_213 rfl ?_
  refine mm_bipush (pc := 215) (x := 12) dX2_read_215 rfl ?_
  refine mm_icmp_ne (pc := 217) (tgt := 247) dX2_read_217 (by decide) (fun hc => ?_) (fun hc => ?_)
  · have h := mm_iff hc h
    refine mm_aload_n (pc := 247) (j := 0) dX2_read_247 rfl rfl ?_
    refine mm_getR (pc := 248) (ci := 2) (N := 3) (r := 5) dX2_read_248 fX2_14 sh_4 rfl (g_4_0 hG) ?_
    refine mm_iconst (pc := 251) (x := 1) dX2_read_251 rfl ?_
    refine mm_aload_n (pc := 252) (j := 0) dX2_read_252 rfl rfl ?_
    refine mm_getR (pc := 253) (ci := 2) (N := 3) (r := 5) dX2_read_253 fX2_14 sh_4 rfl (g_4_0 hG) ?_
    refine mm_getI (pc := 256) (ci := 6) (N := 15) dX2_read_256 fX2_50 sh_5 rfl ?_
    refine mm_kVV (pc := 259) [.int 1, .int (M.1 5 4)] dX2_read_259 kX2_53 rfl sh_5 (Nat.le_of_ble_eq_true rfl) (Nat.le_of_ble_eq_true rfl) h (fun m259 hG h => ?_)
    refine mm_aload_n (pc := 262) (j := 0) dX2_read_262 rfl rfl ?_
    refine mm_getR (pc := 263) (ci := 2) (N := 3) (r := 5) dX2_read_263 fX2_14 sh_4 rfl (g_4_0 hG) ?_
    refine mm_bipush (pc := 266) (x := 59) dX2_read_266 rfl ?_
    refine mm_kVV (pc := 268) [.int 59] dX2_read_268 kX2_80 rfl sh_5 (Nat.le_of_ble_eq_true rfl) (Nat.le_of_ble_eq_true rfl) h (fun m268 hG h => ?_)
    refine mm_aload_n (pc := 271) (j := 0) dX2_read_271 rfl rfl ?_
    obtain ⟨q272, he272, hq272, h⟩ := h
    refine mm_getR (pc := 272) (ci := 2) (N := 3) (r := q272) dX2_read_272 fX2_21 sh_4 rfl he272 ?_
    refine mm_dup (pc := 275) dX2_read_275 rfl ?_
    refine mm_getI (pc := 276) (ci := 7) (N := 11) dX2_read_276 fX2_84 (sh_Rl hq272) rfl ?_
    refine mm_iconst (pc := 279) (x := 1) dX2_read_279 rfl ?_
    refine mm_iadd (pc := 280) dX2_read_280 ?_
    refine mm_putI (pc := 281) (ci := 7) (N := 11) dX2_read_281 fX2_84 (sh_Rl hq272) (by decide +kernel) rfl rfl rfl ?_
    refine mm_iinc (pc := 284) (j := 1) (v := y3 + 1) (lv' := [(3, .int (y3 + 1)), (0, .ref 4), (4, .int y4)]) dX2_read_284 rfl rfl (by decide) rfl ?_
    refine mm_goto (pc := 287) (tgt := 30) dX2_read_287 (by decide) ?_
    exact mm_sub [1, 0] rfl h
  · have h := mm_ift hc h
    refine mm_aload_n (pc := 220) (j := 0) dX2_read_220 rfl rfl ?_
    refine mm_getR (pc := 221) (ci := 2) (N := 3) (r := 5) dX2_read_221 fX2_14 sh_4 rfl (g_4_0 hG) ?_
    refine mm_kVV (pc := 224) [] dX2_read_224 kX2_57 rfl sh_5 (Nat.le_of_ble_eq_true rfl) (Nat.le_of_ble_eq_true rfl) h (fun m224 hG h => ?_)
    refine mm_aload_n (pc := 227) (j := 0) dX2_read_227 rfl rfl ?_
    obtain ⟨q228, he228, hq228, h⟩ := h
    refine mm_getR (pc := 228) (ci := 2) (N := 3) (r := q228) dX2_read_228 fX2_21 sh_4 rfl he228 ?_
    refine mm_aload_n (pc := 231) (j := 0) dX2_read_231 rfl rfl ?_
    refine mm_getR (pc := 232) (ci := 2) (N := 3) (r := 5) dX2_read_232 fX2_14 sh_4 rfl (g_4_0 hG) ?_
    refine mm_iconst (pc := 235) (x := 0) dX2_read_235 rfl ?_
    refine mm_bipush (pc := 236) (x := 100) dX2_read_236 rfl ?_
    refine mm_kVI (pc := 238) [.int 0, .int 100] dX2_read_238 kX2_60 rfl sh_5 (Nat.le_of_ble_eq_true rfl) (Nat.le_of_ble_eq_true rfl) h (fun z238 m238 hG h => ?_)
    refine mm_putI (pc := 241) (ci := 7) (N := 11) dX2_read_241 fX2_77 (sh_Rl hq228) (by decide +kernel) rfl rfl rfl ?_
    refine mm_goto (pc := 244) (tgt := 262) dX2_read_244 (by decide) ?_
    refine mm_aload_n (pc := 262) (j := 0) dX2_read_262 rfl rfl ?_
    refine mm_getR (pc := 263) (ci := 2) (N := 3) (r := 5) dX2_read_263 fX2_14 sh_4 rfl (g_4_0 hG) ?_
    refine mm_bipush (pc := 266) (x := 59) dX2_read_266 rfl ?_
    refine mm_kVV (pc := 268) [.int 59] dX2_read_268 kX2_80 rfl sh_5 (Nat.le_of_ble_eq_true rfl) (Nat.le_of_ble_eq_true rfl) h (fun m268 hG h => ?_)
    refine mm_aload_n (pc := 271) (j := 0) dX2_read_271 rfl rfl ?_
    obtain ⟨q272, he272, hq272, h⟩ := h
    refine mm_getR (pc := 272) (ci := 2) (N := 3) (r := q272) dX2_read_272 fX2_21 sh_4 rfl he272 ?_
    refine mm_dup (pc := 275) dX2_read_275 rfl ?_
    refine mm_getI (pc := 276) (ci := 7) (N := 11) dX2_read_276 fX2_84 (sh_Rl hq272) rfl ?_
    refine mm_iconst (pc := 279) (x := 1) dX2_read_279 rfl ?_
    refine mm_iadd (pc := 280) dX2_read_280 ?_
    refine mm_putI (pc := 281) (ci := 7) (N := 11) dX2_read_281 fX2_84 (sh_Rl hq272) (by decide +kernel) rfl rfl rfl ?_
    refine mm_iinc (pc := 284) (j := 1) (v := y3 + 1) (lv' := [(3, .int (y3 + 1)), (0, .ref 4), (4, .int y4)]) dX2_read_284 rfl rfl (by decide) rfl ?_
    refine mm_goto (pc := 287) (tgt := 30) dX2_read_287 (by decide) ?_
    exact mm_sub [1, 0] rfl h
set_option maxRecDepth 100000 in
set_option maxHeartbeats 4000000 in
theorem rX2_readHouse {d : Nat} {M : mm_M} {K : mm_M → Prop} (hG : mm_G M.2.2) (h : ∃ q1 : Nat, M.2.2 4 1 = some q1 ∧ q1 ∈ mm_Rls ∧ if (M.1 q1 2) < 7 then (mm_CV mX6_next d [.ref 5] M (fun m32 => mm_CI mX6_isAtName d [.ref 5] m32 (fun z39 m39 => if z39 = 0 then (K m39) else (∃ q47 : Nat, m39.2.2 4 1 = some q47 ∧ q47 ∈ mm_Rls ∧ m39.2.2 5 0 = some 1 ∧ mm_CI mX7_houseNamed d [.ref q47, .ref 1, .int (m39.1 5 4), .int (m39.1 5 2)] m39 (fun z71 m71 => if z71 = (-1) then (∃ q95 : Nat, m71.2.2 4 1 = some q95 ∧ q95 ∈ mm_Rls ∧ m71.2.2 5 0 = some 1 ∧ mm_CV mX7_nameNext d [.ref q95, .ref 1, .int (m71.1 5 4), .int (m71.1 5 2)] m71 (fun m119 => mm_CV mX6_next d [.ref 5] m119 (fun m126 => mm_CV mX6_expectWord d [.ref 5, .int 2] m126 (fun m134 => mm_CI mX6_takeNumber d [.ref 5, .int 0, .int 99] m134 (fun z144 m144 => mm_CV mX6_expectWord d [.ref 5, .int 3] m144 (fun m153 => mm_CI mX6_takeNumber d [.ref 5, .int 0, .int 9] m153 (fun z163 m163 => ∃ q168 : Nat, m163.2.2 4 1 = some q168 ∧ q168 ∈ mm_Rls ∧ mm_CV mX7_addNext d [.ref q168, .int z144, .int z163] m163 (fun m173 => K m173)))))))) else (mm_CV mX6_refuse d [.ref 5, .int 3, .int (m71.1 5 4)] m71 (fun m90 => K m90))))))) else (mm_CV mX6_refuse d [.ref 5, .int 5, .int (M.1 5 4)] M (fun m24 => K m24))) : mm_CV mX2_readHouse (d + 1) [.ref 4] M K := by
  show mm_W mX2_readHouse (d + 1) 0 0 0 [(0, .ref 4)] [] mm_SH M 0 0 (mm_PV K)
  refine mm_aload_n (pc := 0) (j := 0) dX2_readHouse_0 rfl rfl ?_
  obtain ⟨q1, he1, hq1, h⟩ := h
  refine mm_getR (pc := 1) (ci := 2) (N := 3) (r := q1) dX2_readHouse_1 fX2_21 sh_4 rfl he1 ?_
  refine mm_getI (pc := 4) (ci := 7) (N := 11) dX2_readHouse_4 fX2_90 (sh_Rl hq1) rfl ?_
  refine mm_bipush (pc := 7) (x := 7) dX2_readHouse_7 rfl ?_
  refine mm_icmp_lt (pc := 9) (tgt := 28) dX2_readHouse_9 (by decide) (fun hc => ?_) (fun hc => ?_)
  · have h := mm_ift hc h
    refine mm_aload_n (pc := 28) (j := 0) dX2_readHouse_28 rfl rfl ?_
    refine mm_getR (pc := 29) (ci := 2) (N := 3) (r := 5) dX2_readHouse_29 fX2_14 sh_4 rfl (g_4_0 hG) ?_
    refine mm_kVV (pc := 32) [] dX2_readHouse_32 kX2_57 rfl sh_5 (Nat.le_of_ble_eq_true rfl) (Nat.le_of_ble_eq_true rfl) h (fun m32 hG h => ?_)
    refine mm_aload_n (pc := 35) (j := 0) dX2_readHouse_35 rfl rfl ?_
    refine mm_getR (pc := 36) (ci := 2) (N := 3) (r := 5) dX2_readHouse_36 fX2_14 sh_4 rfl (g_4_0 hG) ?_
    refine mm_kVI (pc := 39) [] dX2_readHouse_39 kX2_93 rfl sh_5 (Nat.le_of_ble_eq_true rfl) (Nat.le_of_ble_eq_true rfl) h (fun z39 m39 hG h => ?_)
    refine mm_if_ne (pc := 42) (tgt := 46) dX2_readHouse_42 (by decide) (fun hc => ?_) (fun hc => ?_)
    · have h := mm_iff hc h
      refine mm_aload_n (pc := 46) (j := 0) dX2_readHouse_46 rfl rfl ?_
      obtain ⟨q47, he47, hq47, h⟩ := h
      refine mm_getR (pc := 47) (ci := 2) (N := 3) (r := q47) dX2_readHouse_47 fX2_21 sh_4 rfl he47 ?_
      refine mm_aload_n (pc := 50) (j := 0) dX2_readHouse_50 rfl rfl ?_
      refine mm_getR (pc := 51) (ci := 2) (N := 3) (r := 5) dX2_readHouse_51 fX2_14 sh_4 rfl (g_4_0 hG) ?_
      obtain ⟨hq54, h⟩ := h
      refine mm_getR (pc := 54) (ci := 6) (N := 15) (r := 1) dX2_readHouse_54 fX2_97 sh_5 rfl hq54 ?_
      refine mm_aload_n (pc := 57) (j := 0) dX2_readHouse_57 rfl rfl ?_
      refine mm_getR (pc := 58) (ci := 2) (N := 3) (r := 5) dX2_readHouse_58 fX2_14 sh_4 rfl (g_4_0 hG) ?_
      refine mm_getI (pc := 61) (ci := 6) (N := 15) dX2_readHouse_61 fX2_50 sh_5 rfl ?_
      refine mm_aload_n (pc := 64) (j := 0) dX2_readHouse_64 rfl rfl ?_
      refine mm_getR (pc := 65) (ci := 2) (N := 3) (r := 5) dX2_readHouse_65 fX2_14 sh_4 rfl (g_4_0 hG) ?_
      refine mm_getI (pc := 68) (ci := 6) (N := 15) dX2_readHouse_68 fX2_100 sh_5 rfl ?_
      refine mm_kVI (pc := 71) [.ref 1, .int (m39.1 5 4), .int (m39.1 5 2)] dX2_readHouse_71 kX2_103 rfl (sh_Rl hq47) (Nat.le_of_ble_eq_true rfl) (Nat.le_of_ble_eq_true rfl) h (fun z71 m71 hG h => ?_)
      refine mm_iconst (pc := 74) (x := (-1)) dX2_readHouse_74 rfl ?_
      refine mm_icmp_eq (pc := 75) (tgt := 94) dX2_readHouse_75 (by decide) (fun hc => ?_) (fun hc => ?_)
      · have h := mm_ift hc h
        refine mm_aload_n (pc := 94) (j := 0) dX2_readHouse_94 rfl rfl ?_
        obtain ⟨q95, he95, hq95, h⟩ := h
        refine mm_getR (pc := 95) (ci := 2) (N := 3) (r := q95) dX2_readHouse_95 fX2_21 sh_4 rfl he95 ?_
        refine mm_aload_n (pc := 98) (j := 0) dX2_readHouse_98 rfl rfl ?_
        refine mm_getR (pc := 99) (ci := 2) (N := 3) (r := 5) dX2_readHouse_99 fX2_14 sh_4 rfl (g_4_0 hG) ?_
        obtain ⟨hq102, h⟩ := h
        refine mm_getR (pc := 102) (ci := 6) (N := 15) (r := 1) dX2_readHouse_102 fX2_97 sh_5 rfl hq102 ?_
        refine mm_aload_n (pc := 105) (j := 0) dX2_readHouse_105 rfl rfl ?_
        refine mm_getR (pc := 106) (ci := 2) (N := 3) (r := 5) dX2_readHouse_106 fX2_14 sh_4 rfl (g_4_0 hG) ?_
        refine mm_getI (pc := 109) (ci := 6) (N := 15) dX2_readHouse_109 fX2_50 sh_5 rfl ?_
        refine mm_aload_n (pc := 112) (j := 0) dX2_readHouse_112 rfl rfl ?_
        refine mm_getR (pc := 113) (ci := 2) (N := 3) (r := 5) dX2_readHouse_113 fX2_14 sh_4 rfl (g_4_0 hG) ?_
        refine mm_getI (pc := 116) (ci := 6) (N := 15) dX2_readHouse_116 fX2_100 sh_5 rfl ?_
        refine mm_kVV (pc := 119) [.ref 1, .int (m71.1 5 4), .int (m71.1 5 2)] dX2_readHouse_119 kX2_107 rfl (sh_Rl hq95) (Nat.le_of_ble_eq_true rfl) (Nat.le_of_ble_eq_true rfl) h (fun m119 hG h => ?_)
        refine mm_aload_n (pc := 122) (j := 0) dX2_readHouse_122 rfl rfl ?_
        refine mm_getR (pc := 123) (ci := 2) (N := 3) (r := 5) dX2_readHouse_123 fX2_14 sh_4 rfl (g_4_0 hG) ?_
        refine mm_kVV (pc := 126) [] dX2_readHouse_126 kX2_57 rfl sh_5 (Nat.le_of_ble_eq_true rfl) (Nat.le_of_ble_eq_true rfl) h (fun m126 hG h => ?_)
        refine mm_aload_n (pc := 129) (j := 0) dX2_readHouse_129 rfl rfl ?_
        refine mm_getR (pc := 130) (ci := 2) (N := 3) (r := 5) dX2_readHouse_130 fX2_14 sh_4 rfl (g_4_0 hG) ?_
        refine mm_iconst (pc := 133) (x := 2) dX2_readHouse_133 rfl ?_
        refine mm_kVV (pc := 134) [.int 2] dX2_readHouse_134 kX2_111 rfl sh_5 (Nat.le_of_ble_eq_true rfl) (Nat.le_of_ble_eq_true rfl) h (fun m134 hG h => ?_)
        refine mm_aload_n (pc := 137) (j := 0) dX2_readHouse_137 rfl rfl ?_
        refine mm_getR (pc := 138) (ci := 2) (N := 3) (r := 5) dX2_readHouse_138 fX2_14 sh_4 rfl (g_4_0 hG) ?_
        refine mm_iconst (pc := 141) (x := 0) dX2_readHouse_141 rfl ?_
        refine mm_bipush (pc := 142) (x := 99) dX2_readHouse_142 rfl ?_
        refine mm_kVI (pc := 144) [.int 0, .int 99] dX2_readHouse_144 kX2_60 rfl sh_5 (Nat.le_of_ble_eq_true rfl) (Nat.le_of_ble_eq_true rfl) h (fun z144 m144 hG h => ?_)
        refine mm_istore_n (pc := 147) (lv' := [(1, .int z144), (0, .ref 4)]) dX2_readHouse_147 rfl (by decide) rfl ?_
        refine mm_aload_n (pc := 148) (j := 1) dX2_readHouse_148 rfl rfl ?_
        refine mm_getR (pc := 149) (ci := 2) (N := 3) (r := 5) dX2_readHouse_149 fX2_14 sh_4 rfl (g_4_0 hG) ?_
        refine mm_iconst (pc := 152) (x := 3) dX2_readHouse_152 rfl ?_
        refine mm_kVV (pc := 153) [.int 3] dX2_readHouse_153 kX2_111 rfl sh_5 (Nat.le_of_ble_eq_true rfl) (Nat.le_of_ble_eq_true rfl) h (fun m153 hG h => ?_)
        refine mm_aload_n (pc := 156) (j := 1) dX2_readHouse_156 rfl rfl ?_
        refine mm_getR (pc := 157) (ci := 2) (N := 3) (r := 5) dX2_readHouse_157 fX2_14 sh_4 rfl (g_4_0 hG) ?_
        refine mm_iconst (pc := 160) (x := 0) dX2_readHouse_160 rfl ?_
        refine mm_bipush (pc := 161) (x := 9) dX2_readHouse_161 rfl ?_
        refine mm_kVI (pc := 163) [.int 0, .int 9] dX2_readHouse_163 kX2_60 rfl sh_5 (Nat.le_of_ble_eq_true rfl) (Nat.le_of_ble_eq_true rfl) h (fun z163 m163 hG h => ?_)
        refine mm_istore_n (pc := 166) (lv' := [(2, .int z163), (1, .int z144), (0, .ref 4)]) dX2_readHouse_166 rfl (by decide) rfl ?_
        refine mm_aload_n (pc := 167) (j := 2) dX2_readHouse_167 rfl rfl ?_
        obtain ⟨q168, he168, hq168, h⟩ := h
        refine mm_getR (pc := 168) (ci := 2) (N := 3) (r := q168) dX2_readHouse_168 fX2_21 sh_4 rfl he168 ?_
        refine mm_iload_n (pc := 171) (j := 1) dX2_readHouse_171 rfl rfl ?_
        refine mm_iload_n (pc := 172) (j := 0) dX2_readHouse_172 rfl rfl ?_
        refine mm_kVV (pc := 173) [.int z144, .int z163] dX2_readHouse_173 kX2_114 rfl (sh_Rl hq168) (Nat.le_of_ble_eq_true rfl) (Nat.le_of_ble_eq_true rfl) h (fun m173 hG h => ?_)
        exact mm_vret (pc := 176) dX2_readHouse_176 rfl (Nat.le_refl 0) (Nat.le_refl 0) ⟨rfl, rfl, hG, h⟩
      · have h := mm_iff hc h
        refine mm_aload_n (pc := 78) (j := 0) dX2_readHouse_78 rfl rfl ?_
        refine mm_getR (pc := 79) (ci := 2) (N := 3) (r := 5) dX2_readHouse_79 fX2_14 sh_4 rfl (g_4_0 hG) ?_
        refine mm_iconst (pc := 82) (x := 3) dX2_readHouse_82 rfl ?_
        refine mm_aload_n (pc := 83) (j := 0) dX2_readHouse_83 rfl rfl ?_
        refine mm_getR (pc := 84) (ci := 2) (N := 3) (r := 5) dX2_readHouse_84 fX2_14 sh_4 rfl (g_4_0 hG) ?_
        refine mm_getI (pc := 87) (ci := 6) (N := 15) dX2_readHouse_87 fX2_50 sh_5 rfl ?_
        refine mm_kVV (pc := 90) [.int 3, .int (m71.1 5 4)] dX2_readHouse_90 kX2_53 rfl sh_5 (Nat.le_of_ble_eq_true rfl) (Nat.le_of_ble_eq_true rfl) h (fun m90 hG h => ?_)
        exact mm_vret (pc := 93) dX2_readHouse_93 rfl (Nat.le_refl 0) (Nat.le_refl 0) ⟨rfl, rfl, hG, h⟩
    · have h := mm_ift hc h
      exact mm_vret (pc := 45) dX2_readHouse_45 rfl (Nat.le_refl 0) (Nat.le_refl 0) ⟨rfl, rfl, hG, h⟩
  · have h := mm_iff hc h
    refine mm_aload_n (pc := 12) (j := 0) dX2_readHouse_12 rfl rfl ?_
    refine mm_getR (pc := 13) (ci := 2) (N := 3) (r := 5) dX2_readHouse_13 fX2_14 sh_4 rfl (g_4_0 hG) ?_
    refine mm_iconst (pc := 16) (x := 5) dX2_readHouse_16 rfl ?_
    refine mm_aload_n (pc := 17) (j := 0) dX2_readHouse_17 rfl rfl ?_
    refine mm_getR (pc := 18) (ci := 2) (N := 3) (r := 5) dX2_readHouse_18 fX2_14 sh_4 rfl (g_4_0 hG) ?_
    refine mm_getI (pc := 21) (ci := 6) (N := 15) dX2_readHouse_21 fX2_50 sh_5 rfl ?_
    refine mm_kVV (pc := 24) [.int 5, .int (M.1 5 4)] dX2_readHouse_24 kX2_53 rfl sh_5 (Nat.le_of_ble_eq_true rfl) (Nat.le_of_ble_eq_true rfl) h (fun m24 hG h => ?_)
    exact mm_vret (pc := 27) dX2_readHouse_27 rfl (Nat.le_refl 0) (Nat.le_refl 0) ⟨rfl, rfl, hG, h⟩
set_option maxRecDepth 100000 in
set_option maxHeartbeats 4000000 in
theorem rX2_readFeud {d : Nat} {M : mm_M} {K : mm_M → Prop} (hG : mm_G M.2.2) (h : mm_CV mX6_next d [.ref 5] M (fun m4 => mm_CI mX2_readKnownName d [.ref 4, .int (-1)] m4 (fun z9 m9 => mm_CV mX6_expectWord d [.ref 5, .int 5] m9 (fun m18 => mm_CI mX2_readKnownName d [.ref 4, .int z9] m18 (fun z23 m23 => mm_CV mX6_expectWord d [.ref 5, .int 6] m23 (fun m33 => mm_CI mX6_takeNumber d [.ref 5, .int 1, .int 99] m33 (fun z43 m43 => if (m43.1 5 8) = 0 then (if z9 < 0 then (K m43) else (if z23 < 0 then (K m43) else (∃ q66 : Nat, m43.2.2 4 1 = some q66 ∧ q66 ∈ mm_Rls ∧ vp_in ((8 * z9) + z23) 64 ∧ ∃ q81 : Nat, (mm_uI m43 (q66 + 4) ((8 * z9) + z23).toNatClampNeg z43).2.2 4 1 = some q81 ∧ q81 ∈ mm_Rls ∧ vp_in ((8 * z23) + z9) 64 ∧ K (mm_uI (mm_uI m43 (q66 + 4) ((8 * z9) + z23).toNatClampNeg z43) (q81 + 4) ((8 * z23) + z9).toNatClampNeg z43)))) else (K m43)))))))) : mm_CV mX2_readFeud (d + 1) [.ref 4] M K := by
  show mm_W mX2_readFeud (d + 1) 0 0 0 [(0, .ref 4)] [] mm_SH M 0 0 (mm_PV K)
  refine mm_aload_n (pc := 0) (j := 0) dX2_readFeud_0 rfl rfl ?_
  refine mm_getR (pc := 1) (ci := 2) (N := 3) (r := 5) dX2_readFeud_1 fX2_14 sh_4 rfl (g_4_0 hG) ?_
  refine mm_kVV (pc := 4) [] dX2_readFeud_4 kX2_57 rfl sh_5 (Nat.le_of_ble_eq_true rfl) (Nat.le_of_ble_eq_true rfl) h (fun m4 hG h => ?_)
  refine mm_aload_n (pc := 7) (j := 0) dX2_readFeud_7 rfl rfl ?_
  refine mm_iconst (pc := 8) (x := (-1)) dX2_readFeud_8 rfl ?_
  refine mm_kVI (pc := 9) [.int (-1)] dX2_readFeud_9 kX2_117 rfl sh_4 (Nat.le_of_ble_eq_true rfl) (Nat.le_of_ble_eq_true rfl) h (fun z9 m9 hG h => ?_)
  refine mm_istore_n (pc := 12) (lv' := [(1, .int z9), (0, .ref 4)]) dX2_readFeud_12 rfl (by decide) rfl ?_
  refine mm_aload_n (pc := 13) (j := 1) dX2_readFeud_13 rfl rfl ?_
  refine mm_getR (pc := 14) (ci := 2) (N := 3) (r := 5) dX2_readFeud_14 fX2_14 sh_4 rfl (g_4_0 hG) ?_
  refine mm_iconst (pc := 17) (x := 5) dX2_readFeud_17 rfl ?_
  refine mm_kVV (pc := 18) [.int 5] dX2_readFeud_18 kX2_111 rfl sh_5 (Nat.le_of_ble_eq_true rfl) (Nat.le_of_ble_eq_true rfl) h (fun m18 hG h => ?_)
  refine mm_aload_n (pc := 21) (j := 1) dX2_readFeud_21 rfl rfl ?_
  refine mm_iload_n (pc := 22) (j := 0) dX2_readFeud_22 rfl rfl ?_
  refine mm_kVI (pc := 23) [.int z9] dX2_readFeud_23 kX2_117 rfl sh_4 (Nat.le_of_ble_eq_true rfl) (Nat.le_of_ble_eq_true rfl) h (fun z23 m23 hG h => ?_)
  refine mm_istore_n (pc := 26) (lv' := [(2, .int z23), (1, .int z9), (0, .ref 4)]) dX2_readFeud_26 rfl (by decide) rfl ?_
  refine mm_aload_n (pc := 27) (j := 2) dX2_readFeud_27 rfl rfl ?_
  refine mm_getR (pc := 28) (ci := 2) (N := 3) (r := 5) dX2_readFeud_28 fX2_14 sh_4 rfl (g_4_0 hG) ?_
  refine mm_bipush (pc := 31) (x := 6) dX2_readFeud_31 rfl ?_
  refine mm_kVV (pc := 33) [.int 6] dX2_readFeud_33 kX2_111 rfl sh_5 (Nat.le_of_ble_eq_true rfl) (Nat.le_of_ble_eq_true rfl) h (fun m33 hG h => ?_)
  refine mm_aload_n (pc := 36) (j := 2) dX2_readFeud_36 rfl rfl ?_
  refine mm_getR (pc := 37) (ci := 2) (N := 3) (r := 5) dX2_readFeud_37 fX2_14 sh_4 rfl (g_4_0 hG) ?_
  refine mm_iconst (pc := 40) (x := 1) dX2_readFeud_40 rfl ?_
  refine mm_bipush (pc := 41) (x := 99) dX2_readFeud_41 rfl ?_
  refine mm_kVI (pc := 43) [.int 1, .int 99] dX2_readFeud_43 kX2_60 rfl sh_5 (Nat.le_of_ble_eq_true rfl) (Nat.le_of_ble_eq_true rfl) h (fun z43 m43 hG h => ?_)
  refine mm_istore_n (pc := 46) (lv' := [(3, .int z43), (2, .int z23), (1, .int z9), (0, .ref 4)]) dX2_readFeud_46 rfl (by decide) rfl ?_
  refine mm_aload_n (pc := 47) (j := 3) dX2_readFeud_47 rfl rfl ?_
  refine mm_getR (pc := 48) (ci := 2) (N := 3) (r := 5) dX2_readFeud_48 fX2_14 sh_4 rfl (g_4_0 hG) ?_
  refine mm_getI (pc := 51) (ci := 6) (N := 15) dX2_readFeud_51 fX2_41 sh_5 rfl ?_
  refine mm_if_ne (pc := 54) (tgt := 95) dX2_readFeud_54 (by decide) (fun hc => ?_) (fun hc => ?_)
  · have h := mm_iff hc h
    exact mm_vret (pc := 95) dX2_readFeud_95 rfl (Nat.le_refl 0) (Nat.le_refl 0) ⟨rfl, rfl, hG, h⟩
  · have h := mm_ift hc h
    refine mm_iload_n (pc := 57) (j := 2) dX2_readFeud_57 rfl rfl ?_
    refine mm_if_lt (pc := 58) (tgt := 95) dX2_readFeud_58 (by decide) (fun hc => ?_) (fun hc => ?_)
    · have h := mm_ift hc h
      exact mm_vret (pc := 95) dX2_readFeud_95 rfl (Nat.le_refl 0) (Nat.le_refl 0) ⟨rfl, rfl, hG, h⟩
    · have h := mm_iff hc h
      refine mm_iload_n (pc := 61) (j := 1) dX2_readFeud_61 rfl rfl ?_
      refine mm_if_lt (pc := 62) (tgt := 95) dX2_readFeud_62 (by decide) (fun hc => ?_) (fun hc => ?_)
      · have h := mm_ift hc h
        exact mm_vret (pc := 95) dX2_readFeud_95 rfl (Nat.le_refl 0) (Nat.le_refl 0) ⟨rfl, rfl, hG, h⟩
      · have h := mm_iff hc h
        refine mm_aload_n (pc := 65) (j := 3) dX2_readFeud_65 rfl rfl ?_
        obtain ⟨q66, he66, hq66, h⟩ := h
        refine mm_getR (pc := 66) (ci := 2) (N := 3) (r := q66) dX2_readFeud_66 fX2_21 sh_4 rfl he66 ?_
        refine mm_getR (pc := 69) (ci := 7) (N := 11) (r := q66 + 4) dX2_readFeud_69 fX2_121 (sh_Rl hq66) rfl (g_Rl_7 hG hq66) ?_
        refine mm_bipush (pc := 72) (x := 8) dX2_readFeud_72 rfl ?_
        refine mm_iload_n (pc := 74) (j := 2) dX2_readFeud_74 rfl rfl ?_
        refine mm_imul (pc := 75) dX2_readFeud_75 ?_
        refine mm_iload_n (pc := 76) (j := 1) dX2_readFeud_76 rfl rfl ?_
        refine mm_iadd (pc := 77) dX2_readFeud_77 ?_
        refine mm_iload_n (pc := 78) (j := 0) dX2_readFeud_78 rfl rfl ?_
        obtain ⟨hi79, h⟩ := h
        refine mm_iastore (pc := 79) (N := 64) dX2_readFeud_79 (sh_Rl_4 hq66) hi79 ?_
        refine mm_aload_n (pc := 80) (j := 3) dX2_readFeud_80 rfl rfl ?_
        obtain ⟨q81, he81, hq81, h⟩ := h
        refine mm_getR (pc := 81) (ci := 2) (N := 3) (r := q81) dX2_readFeud_81 fX2_21 sh_4 rfl he81 ?_
        refine mm_getR (pc := 84) (ci := 7) (N := 11) (r := q81 + 4) dX2_readFeud_84 fX2_121 (sh_Rl hq81) rfl (g_Rl_7 hG hq81) ?_
        refine mm_bipush (pc := 87) (x := 8) dX2_readFeud_87 rfl ?_
        refine mm_iload_n (pc := 89) (j := 1) dX2_readFeud_89 rfl rfl ?_
        refine mm_imul (pc := 90) dX2_readFeud_90 ?_
        refine mm_iload_n (pc := 91) (j := 2) dX2_readFeud_91 rfl rfl ?_
        refine mm_iadd (pc := 92) dX2_readFeud_92 ?_
        refine mm_iload_n (pc := 93) (j := 0) dX2_readFeud_93 rfl rfl ?_
        obtain ⟨hi94, h⟩ := h
        refine mm_iastore (pc := 94) (N := 64) dX2_readFeud_94 (sh_Rl_4 hq81) hi94 ?_
        exact mm_vret (pc := 95) dX2_readFeud_95 rfl (Nat.le_refl 0) (Nat.le_refl 0) ⟨rfl, rfl, hG, h⟩
set_option maxRecDepth 100000 in
set_option maxHeartbeats 4000000 in
theorem rX2_readKnownName {d : Nat} {x1 : Int32} {M : mm_M} {K : Int32 → mm_M → Prop} (hG : mm_G M.2.2) (h : if (M.1 5 8) = 0 then (mm_CI mX6_isAtName d [.ref 5] M (fun z14 m14 => if z14 = 0 then (K (-1) m14) else (∃ q23 : Nat, m14.2.2 4 1 = some q23 ∧ q23 ∈ mm_Rls ∧ m14.2.2 5 0 = some 1 ∧ mm_CI mX7_houseNamed d [.ref q23, .ref 1, .int (m14.1 5 4), .int (m14.1 5 2)] m14 (fun z47 m47 => if z47 = (-1) then (mm_CV mX6_refuse d [.ref 5, .int 3, .int (m47.1 5 4)] m47 (fun m94 => K (-1) m94)) else (if z47 = x1 then (mm_CV mX6_refuse d [.ref 5, .int 3, .int (m47.1 5 4)] m47 (fun m94 => K (-1) m94)) else (if x1 < 0 then (mm_CV mX6_next d [.ref 5] m47 (fun m103 => K z47 m103)) else (∃ q66 : Nat, m47.2.2 4 1 = some q66 ∧ q66 ∈ mm_Rls ∧ vp_in ((8 * x1) + z47) 64 ∧ if (m47.1 (q66 + 4) ((8 * x1) + z47).toNatClampNeg) ≤ 0 then (mm_CV mX6_next d [.ref 5] m47 (fun m103 => K z47 m103)) else (mm_CV mX6_refuse d [.ref 5, .int 3, .int (m47.1 5 4)] m47 (fun m94 => K (-1) m94))))))))) else (K (-1) M)) : mm_CI mX2_readKnownName (d + 1) [.ref 4, .int x1] M K := by
  show mm_W mX2_readKnownName (d + 1) 0 0 0 [(0, .ref 4), (1, .int x1)] [] mm_SH M 0 0 (mm_PI K)
  refine mm_aload_n (pc := 0) (j := 0) dX2_readKnownName_0 rfl rfl ?_
  refine mm_getR (pc := 1) (ci := 2) (N := 3) (r := 5) dX2_readKnownName_1 fX2_14 sh_4 rfl (g_4_0 hG) ?_
  refine mm_getI (pc := 4) (ci := 6) (N := 15) dX2_readKnownName_4 fX2_41 sh_5 rfl ?_
  refine mm_if_ne (pc := 7) (tgt := 20) dX2_readKnownName_7 (by decide) (fun hc => ?_) (fun hc => ?_)
  · have h := mm_iff hc h
    refine mm_iconst (pc := 20) (x := (-1)) dX2_readKnownName_20 rfl ?_
    exact mm_iret (pc := 21) dX2_readKnownName_21 rfl (Nat.le_refl 0) (Nat.le_refl 0) ⟨_, rfl, rfl, hG, h⟩
  · have h := mm_ift hc h
    refine mm_aload_n (pc := 10) (j := 0) dX2_readKnownName_10 rfl rfl ?_
    refine mm_getR (pc := 11) (ci := 2) (N := 3) (r := 5) dX2_readKnownName_11 fX2_14 sh_4 rfl (g_4_0 hG) ?_
    refine mm_kVI (pc := 14) [] dX2_readKnownName_14 kX2_93 rfl sh_5 (Nat.le_of_ble_eq_true rfl) (Nat.le_of_ble_eq_true rfl) h (fun z14 m14 hG h => ?_)
    refine mm_if_ne (pc := 17) (tgt := 22) dX2_readKnownName_17 (by decide) (fun hc => ?_) (fun hc => ?_)
    · have h := mm_iff hc h
      refine mm_aload_n (pc := 22) (j := 0) dX2_readKnownName_22 rfl rfl ?_
      obtain ⟨q23, he23, hq23, h⟩ := h
      refine mm_getR (pc := 23) (ci := 2) (N := 3) (r := q23) dX2_readKnownName_23 fX2_21 sh_4 rfl he23 ?_
      refine mm_aload_n (pc := 26) (j := 0) dX2_readKnownName_26 rfl rfl ?_
      refine mm_getR (pc := 27) (ci := 2) (N := 3) (r := 5) dX2_readKnownName_27 fX2_14 sh_4 rfl (g_4_0 hG) ?_
      obtain ⟨hq30, h⟩ := h
      refine mm_getR (pc := 30) (ci := 6) (N := 15) (r := 1) dX2_readKnownName_30 fX2_97 sh_5 rfl hq30 ?_
      refine mm_aload_n (pc := 33) (j := 0) dX2_readKnownName_33 rfl rfl ?_
      refine mm_getR (pc := 34) (ci := 2) (N := 3) (r := 5) dX2_readKnownName_34 fX2_14 sh_4 rfl (g_4_0 hG) ?_
      refine mm_getI (pc := 37) (ci := 6) (N := 15) dX2_readKnownName_37 fX2_50 sh_5 rfl ?_
      refine mm_aload_n (pc := 40) (j := 0) dX2_readKnownName_40 rfl rfl ?_
      refine mm_getR (pc := 41) (ci := 2) (N := 3) (r := 5) dX2_readKnownName_41 fX2_14 sh_4 rfl (g_4_0 hG) ?_
      refine mm_getI (pc := 44) (ci := 6) (N := 15) dX2_readKnownName_44 fX2_100 sh_5 rfl ?_
      refine mm_kVI (pc := 47) [.ref 1, .int (m14.1 5 4), .int (m14.1 5 2)] dX2_readKnownName_47 kX2_103 rfl (sh_Rl hq23) (Nat.le_of_ble_eq_true rfl) (Nat.le_of_ble_eq_true rfl) h (fun z47 m47 hG h => ?_)
      refine mm_istore_n (pc := 50) (lv' := [(2, .int z47), (0, .ref 4), (1, .int x1)]) dX2_readKnownName_50 rfl (by decide) rfl ?_
      refine mm_iload_n (pc := 51) (j := 0) dX2_readKnownName_51 rfl rfl ?_
      refine mm_iconst (pc := 52) (x := (-1)) dX2_readKnownName_52 rfl ?_
      refine mm_icmp_eq (pc := 53) (tgt := 82) dX2_readKnownName_53 (by decide) (fun hc => ?_) (fun hc => ?_)
      · have h := mm_ift hc h
        refine mm_aload_n (pc := 82) (j := 1) dX2_readKnownName_82 rfl rfl ?_
        refine mm_getR (pc := 83) (ci := 2) (N := 3) (r := 5) dX2_readKnownName_83 fX2_14 sh_4 rfl (g_4_0 hG) ?_
        refine mm_iconst (pc := 86) (x := 3) dX2_readKnownName_86 rfl ?_
        refine mm_aload_n (pc := 87) (j := 1) dX2_readKnownName_87 rfl rfl ?_
        refine mm_getR (pc := 88) (ci := 2) (N := 3) (r := 5) dX2_readKnownName_88 fX2_14 sh_4 rfl (g_4_0 hG) ?_
        refine mm_getI (pc := 91) (ci := 6) (N := 15) dX2_readKnownName_91 fX2_50 sh_5 rfl ?_
        refine mm_kVV (pc := 94) [.int 3, .int (m47.1 5 4)] dX2_readKnownName_94 kX2_53 rfl sh_5 (Nat.le_of_ble_eq_true rfl) (Nat.le_of_ble_eq_true rfl) h (fun m94 hG h => ?_)
        refine mm_iconst (pc := 97) (x := (-1)) dX2_readKnownName_97 rfl ?_
        exact mm_iret (pc := 98) dX2_readKnownName_98 rfl (Nat.le_refl 0) (Nat.le_refl 0) ⟨_, rfl, rfl, hG, h⟩
      · have h := mm_iff hc h
        refine mm_iload_n (pc := 56) (j := 0) dX2_readKnownName_56 rfl rfl ?_
        refine mm_iload_n (pc := 57) (j := 2) dX2_readKnownName_57 rfl rfl ?_
        refine mm_icmp_eq (pc := 58) (tgt := 82) dX2_readKnownName_58 (by decide) (fun hc => ?_) (fun hc => ?_)
        · have h := mm_ift hc h
          refine mm_aload_n (pc := 82) (j := 1) dX2_readKnownName_82 rfl rfl ?_
          refine mm_getR (pc := 83) (ci := 2) (N := 3) (r := 5) dX2_readKnownName_83 fX2_14 sh_4 rfl (g_4_0 hG) ?_
          refine mm_iconst (pc := 86) (x := 3) dX2_readKnownName_86 rfl ?_
          refine mm_aload_n (pc := 87) (j := 1) dX2_readKnownName_87 rfl rfl ?_
          refine mm_getR (pc := 88) (ci := 2) (N := 3) (r := 5) dX2_readKnownName_88 fX2_14 sh_4 rfl (g_4_0 hG) ?_
          refine mm_getI (pc := 91) (ci := 6) (N := 15) dX2_readKnownName_91 fX2_50 sh_5 rfl ?_
          refine mm_kVV (pc := 94) [.int 3, .int (m47.1 5 4)] dX2_readKnownName_94 kX2_53 rfl sh_5 (Nat.le_of_ble_eq_true rfl) (Nat.le_of_ble_eq_true rfl) h (fun m94 hG h => ?_)
          refine mm_iconst (pc := 97) (x := (-1)) dX2_readKnownName_97 rfl ?_
          exact mm_iret (pc := 98) dX2_readKnownName_98 rfl (Nat.le_refl 0) (Nat.le_refl 0) ⟨_, rfl, rfl, hG, h⟩
        · have h := mm_iff hc h
          refine mm_iload_n (pc := 61) (j := 2) dX2_readKnownName_61 rfl rfl ?_
          refine mm_if_lt (pc := 62) (tgt := 99) dX2_readKnownName_62 (by decide) (fun hc => ?_) (fun hc => ?_)
          · have h := mm_ift hc h
            refine mm_aload_n (pc := 99) (j := 1) dX2_readKnownName_99 rfl rfl ?_
            refine mm_getR (pc := 100) (ci := 2) (N := 3) (r := 5) dX2_readKnownName_100 fX2_14 sh_4 rfl (g_4_0 hG) ?_
            refine mm_kVV (pc := 103) [] dX2_readKnownName_103 kX2_57 rfl sh_5 (Nat.le_of_ble_eq_true rfl) (Nat.le_of_ble_eq_true rfl) h (fun m103 hG h => ?_)
            refine mm_iload_n (pc := 106) (j := 0) dX2_readKnownName_106 rfl rfl ?_
            exact mm_iret (pc := 107) dX2_readKnownName_107 rfl (Nat.le_refl 0) (Nat.le_refl 0) ⟨_, rfl, rfl, hG, h⟩
          · have h := mm_iff hc h
            refine mm_aload_n (pc := 65) (j := 1) dX2_readKnownName_65 rfl rfl ?_
            obtain ⟨q66, he66, hq66, h⟩ := h
            refine mm_getR (pc := 66) (ci := 2) (N := 3) (r := q66) dX2_readKnownName_66 fX2_21 sh_4 rfl he66 ?_
            refine mm_getR (pc := 69) (ci := 7) (N := 11) (r := q66 + 4) dX2_readKnownName_69 fX2_121 (sh_Rl hq66) rfl (g_Rl_7 hG hq66) ?_
            refine mm_bipush (pc := 72) (x := 8) dX2_readKnownName_72 rfl ?_
            refine mm_iload_n (pc := 74) (j := 2) dX2_readKnownName_74 rfl rfl ?_
            refine mm_imul (pc := 75) dX2_readKnownName_75 ?_
            refine mm_iload_n (pc := 76) (j := 0) dX2_readKnownName_76 rfl rfl ?_
            refine mm_iadd (pc := 77) dX2_readKnownName_77 ?_
            obtain ⟨hi78, h⟩ := h
            refine mm_iaload (pc := 78) (N := 64) dX2_readKnownName_78 (sh_Rl_4 hq66) hi78 ?_
            refine mm_if_le (pc := 79) (tgt := 99) dX2_readKnownName_79 (by decide) (fun hc => ?_) (fun hc => ?_)
            · have h := mm_ift hc h
              refine mm_aload_n (pc := 99) (j := 1) dX2_readKnownName_99 rfl rfl ?_
              refine mm_getR (pc := 100) (ci := 2) (N := 3) (r := 5) dX2_readKnownName_100 fX2_14 sh_4 rfl (g_4_0 hG) ?_
              refine mm_kVV (pc := 103) [] dX2_readKnownName_103 kX2_57 rfl sh_5 (Nat.le_of_ble_eq_true rfl) (Nat.le_of_ble_eq_true rfl) h (fun m103 hG h => ?_)
              refine mm_iload_n (pc := 106) (j := 0) dX2_readKnownName_106 rfl rfl ?_
              exact mm_iret (pc := 107) dX2_readKnownName_107 rfl (Nat.le_refl 0) (Nat.le_refl 0) ⟨_, rfl, rfl, hG, h⟩
            · have h := mm_iff hc h
              refine mm_aload_n (pc := 82) (j := 1) dX2_readKnownName_82 rfl rfl ?_
              refine mm_getR (pc := 83) (ci := 2) (N := 3) (r := 5) dX2_readKnownName_83 fX2_14 sh_4 rfl (g_4_0 hG) ?_
              refine mm_iconst (pc := 86) (x := 3) dX2_readKnownName_86 rfl ?_
              refine mm_aload_n (pc := 87) (j := 1) dX2_readKnownName_87 rfl rfl ?_
              refine mm_getR (pc := 88) (ci := 2) (N := 3) (r := 5) dX2_readKnownName_88 fX2_14 sh_4 rfl (g_4_0 hG) ?_
              refine mm_getI (pc := 91) (ci := 6) (N := 15) dX2_readKnownName_91 fX2_50 sh_5 rfl ?_
              refine mm_kVV (pc := 94) [.int 3, .int (m47.1 5 4)] dX2_readKnownName_94 kX2_53 rfl sh_5 (Nat.le_of_ble_eq_true rfl) (Nat.le_of_ble_eq_true rfl) h (fun m94 hG h => ?_)
              refine mm_iconst (pc := 97) (x := (-1)) dX2_readKnownName_97 rfl ?_
              exact mm_iret (pc := 98) dX2_readKnownName_98 rfl (Nat.le_refl 0) (Nat.le_refl 0) ⟨_, rfl, rfl, hG, h⟩
    · have h := mm_ift hc h
      refine mm_iconst (pc := 20) (x := (-1)) dX2_readKnownName_20 rfl ?_
      exact mm_iret (pc := 21) dX2_readKnownName_21 rfl (Nat.le_refl 0) (Nat.le_refl 0) ⟨_, rfl, rfl, hG, h⟩
set_option maxRecDepth 100000 in
set_option maxHeartbeats 4000000 in
theorem rX2_readRule {d : Nat} {x1 : Int32} {M : mm_M} {K : mm_M → Prop} (hG : mm_G M.2.2) (h : if (((M.1 4 2) >>> (x1 &&& 31)) &&& 1) = 0 then (mm_CI mX2_factsOf d [.int x1] (mm_uI M 4 2 ((M.1 4 2) ||| ((1 : Int32) <<< (x1 &&& 31)))) (fun z44 m44 => mm_CV mX6_next d [.ref 5] (mm_uI m44 5 11 z44) (fun m62 => if x1 = 2 then (mm_CV mX6_test d [.ref 5] m62 (fun m74 => ∃ q88 : Nat, m74.2.2 4 1 = some q88 ∧ q88 ∈ mm_Rls ∧ mm_CV mX7_place d [.ref q88, .int x1, .int ((mm_uI m44 5 11 z44).1 5 14), .int (m74.1 5 14)] m74 (fun m100 => K m100))) else (mm_CV mX6_sum d [.ref 5] m62 (fun m84 => ∃ q88 : Nat, m84.2.2 4 1 = some q88 ∧ q88 ∈ mm_Rls ∧ mm_CV mX7_place d [.ref q88, .int x1, .int ((mm_uI m44 5 11 z44).1 5 14), .int (m84.1 5 14)] m84 (fun m100 => K m100)))))) else (mm_CV mX6_refuse d [.ref 5, .int 5, .int (M.1 5 4)] M (fun m23 => K m23))) : mm_CV mX2_readRule (d + 1) [.ref 4, .int x1] M K := by
  show mm_W mX2_readRule (d + 1) 0 0 0 [(0, .ref 4), (1, .int x1)] [] mm_SH M 0 0 (mm_PV K)
  refine mm_aload_n (pc := 0) (j := 0) dX2_readRule_0 rfl rfl ?_
  refine mm_getI (pc := 1) (ci := 2) (N := 3) dX2_readRule_1 fX2_25 sh_4 rfl ?_
  refine mm_iload_n (pc := 4) (j := 1) dX2_readRule_4 rfl rfl ?_
  refine mm_ishr (pc := 5) dX2_readRule_5 ?_
  refine mm_iconst (pc := 6) (x := 1) dX2_readRule_6 rfl ?_
  refine mm_iand (pc := 7) dX2_readRule_7 ?_
  refine mm_if_eq (pc := 8) (tgt := 27) dX2_readRule_8 (by decide) (fun hc => ?_) (fun hc => ?_)
  · have h := mm_ift hc h
    refine mm_aload_n (pc := 27) (j := 0) dX2_readRule_27 rfl rfl ?_
    refine mm_dup (pc := 28) dX2_readRule_28 rfl ?_
    refine mm_getI (pc := 29) (ci := 2) (N := 3) dX2_readRule_29 fX2_25 sh_4 rfl ?_
    refine mm_iconst (pc := 32) (x := 1) dX2_readRule_32 rfl ?_
    refine mm_iload_n (pc := 33) (j := 1) dX2_readRule_33 rfl rfl ?_
    refine mm_ishl (pc := 34) dX2_readRule_34 ?_
    refine mm_ior (pc := 35) dX2_readRule_35 ?_
    refine mm_putI (pc := 36) (ci := 2) (N := 3) dX2_readRule_36 fX2_25 sh_4 (by decide +kernel) rfl rfl rfl ?_
    refine mm_aload_n (pc := 39) (j := 0) dX2_readRule_39 rfl rfl ?_
    refine mm_getR (pc := 40) (ci := 2) (N := 3) (r := 5) dX2_readRule_40 fX2_14 sh_4 rfl (g_4_0 hG) ?_
    refine mm_iload_n (pc := 43) (j := 1) dX2_readRule_43 rfl rfl ?_
    refine mm_kSI (pc := 44) [.int x1] dX2_readRule_44 kX2_124 rfl (Nat.le_of_ble_eq_true rfl) (Nat.le_of_ble_eq_true rfl) h (fun z44 m44 hG h => ?_)
    refine mm_putI (pc := 47) (ci := 6) (N := 15) dX2_readRule_47 fX2_127 sh_5 (by decide +kernel) rfl rfl rfl ?_
    refine mm_aload_n (pc := 50) (j := 0) dX2_readRule_50 rfl rfl ?_
    refine mm_getR (pc := 51) (ci := 2) (N := 3) (r := 5) dX2_readRule_51 fX2_14 sh_4 rfl (g_4_0 hG) ?_
    refine mm_getI (pc := 54) (ci := 6) (N := 15) dX2_readRule_54 fX2_130 sh_5 rfl ?_
    refine mm_istore_n (pc := 57) (lv' := [(2, .int ((mm_uI m44 5 11 z44).1 5 14)), (0, .ref 4), (1, .int x1)]) dX2_readRule_57 rfl (by decide) rfl ?_
    refine mm_aload_n (pc := 58) (j := 1) dX2_readRule_58 rfl rfl ?_
    refine mm_getR (pc := 59) (ci := 2) (N := 3) (r := 5) dX2_readRule_59 fX2_14 sh_4 rfl (g_4_0 hG) ?_
    refine mm_kVV (pc := 62) [] dX2_readRule_62 kX2_57 rfl sh_5 (Nat.le_of_ble_eq_true rfl) (Nat.le_of_ble_eq_true rfl) h (fun m62 hG h => ?_)
    refine mm_iload_n (pc := 65) (j := 2) dX2_readRule_65 rfl rfl ?_
    refine mm_iconst (pc := 66) (x := 2) dX2_readRule_66 rfl ?_
    refine mm_icmp_ne (pc := 67) (tgt := 80) dX2_readRule_67 (by decide) (fun hc => ?_) (fun hc => ?_)
    · have h := mm_iff hc h
      refine mm_aload_n (pc := 80) (j := 1) dX2_readRule_80 rfl rfl ?_
      refine mm_getR (pc := 81) (ci := 2) (N := 3) (r := 5) dX2_readRule_81 fX2_14 sh_4 rfl (g_4_0 hG) ?_
      refine mm_kNV (pc := 84) [] dX2_readRule_84 kX2_136 rfl sh_5 (Nat.le_of_ble_eq_true rfl) (Nat.le_of_ble_eq_true rfl) h (fun m84 hG h => ?_)
      refine mm_aload_n (pc := 87) (j := 1) dX2_readRule_87 rfl rfl ?_
      obtain ⟨q88, he88, hq88, h⟩ := h
      refine mm_getR (pc := 88) (ci := 2) (N := 3) (r := q88) dX2_readRule_88 fX2_21 sh_4 rfl he88 ?_
      refine mm_iload_n (pc := 91) (j := 2) dX2_readRule_91 rfl rfl ?_
      refine mm_iload_n (pc := 92) (j := 0) dX2_readRule_92 rfl rfl ?_
      refine mm_aload_n (pc := 93) (j := 1) dX2_readRule_93 rfl rfl ?_
      refine mm_getR (pc := 94) (ci := 2) (N := 3) (r := 5) dX2_readRule_94 fX2_14 sh_4 rfl (g_4_0 hG) ?_
      refine mm_getI (pc := 97) (ci := 6) (N := 15) dX2_readRule_97 fX2_130 sh_5 rfl ?_
      refine mm_kVV (pc := 100) [.int x1, .int ((mm_uI m44 5 11 z44).1 5 14), .int (m84.1 5 14)] dX2_readRule_100 kX2_139 rfl (sh_Rl hq88) (Nat.le_of_ble_eq_true rfl) (Nat.le_of_ble_eq_true rfl) h (fun m100 hG h => ?_)
      exact mm_vret (pc := 103) dX2_readRule_103 rfl (Nat.le_refl 0) (Nat.le_refl 0) ⟨rfl, rfl, hG, h⟩
    · have h := mm_ift hc h
      refine mm_aload_n (pc := 70) (j := 1) dX2_readRule_70 rfl rfl ?_
      refine mm_getR (pc := 71) (ci := 2) (N := 3) (r := 5) dX2_readRule_71 fX2_14 sh_4 rfl (g_4_0 hG) ?_
      refine mm_kNV (pc := 74) [] dX2_readRule_74 kX2_133 rfl sh_5 (Nat.le_of_ble_eq_true rfl) (Nat.le_of_ble_eq_true rfl) h (fun m74 hG h => ?_)
      refine mm_goto (pc := 77) (tgt := 87) dX2_readRule_77 (by decide) ?_
      refine mm_aload_n (pc := 87) (j := 1) dX2_readRule_87 rfl rfl ?_
      obtain ⟨q88, he88, hq88, h⟩ := h
      refine mm_getR (pc := 88) (ci := 2) (N := 3) (r := q88) dX2_readRule_88 fX2_21 sh_4 rfl he88 ?_
      refine mm_iload_n (pc := 91) (j := 2) dX2_readRule_91 rfl rfl ?_
      refine mm_iload_n (pc := 92) (j := 0) dX2_readRule_92 rfl rfl ?_
      refine mm_aload_n (pc := 93) (j := 1) dX2_readRule_93 rfl rfl ?_
      refine mm_getR (pc := 94) (ci := 2) (N := 3) (r := 5) dX2_readRule_94 fX2_14 sh_4 rfl (g_4_0 hG) ?_
      refine mm_getI (pc := 97) (ci := 6) (N := 15) dX2_readRule_97 fX2_130 sh_5 rfl ?_
      refine mm_kVV (pc := 100) [.int x1, .int ((mm_uI m44 5 11 z44).1 5 14), .int (m74.1 5 14)] dX2_readRule_100 kX2_139 rfl (sh_Rl hq88) (Nat.le_of_ble_eq_true rfl) (Nat.le_of_ble_eq_true rfl) h (fun m100 hG h => ?_)
      exact mm_vret (pc := 103) dX2_readRule_103 rfl (Nat.le_refl 0) (Nat.le_refl 0) ⟨rfl, rfl, hG, h⟩
  · have h := mm_iff hc h
    refine mm_aload_n (pc := 11) (j := 0) dX2_readRule_11 rfl rfl ?_
    refine mm_getR (pc := 12) (ci := 2) (N := 3) (r := 5) dX2_readRule_12 fX2_14 sh_4 rfl (g_4_0 hG) ?_
    refine mm_iconst (pc := 15) (x := 5) dX2_readRule_15 rfl ?_
    refine mm_aload_n (pc := 16) (j := 0) dX2_readRule_16 rfl rfl ?_
    refine mm_getR (pc := 17) (ci := 2) (N := 3) (r := 5) dX2_readRule_17 fX2_14 sh_4 rfl (g_4_0 hG) ?_
    refine mm_getI (pc := 20) (ci := 6) (N := 15) dX2_readRule_20 fX2_50 sh_5 rfl ?_
    refine mm_kVV (pc := 23) [.int 5, .int (M.1 5 4)] dX2_readRule_23 kX2_53 rfl sh_5 (Nat.le_of_ble_eq_true rfl) (Nat.le_of_ble_eq_true rfl) h (fun m23 hG h => ?_)
    exact mm_vret (pc := 26) dX2_readRule_26 rfl (Nat.le_refl 0) (Nat.le_refl 0) ⟨rfl, rfl, hG, h⟩
set_option maxRecDepth 100000 in
set_option maxHeartbeats 4000000 in
theorem rX2_factsOf {d : Nat} {x0 : Int32} {M : mm_M} {K : Int32 → mm_M → Prop} (hG : mm_G M.2.2) (h : if x0 = 3 then (K 41024 M) else (if x0 = 0 then (K 24652 M) else (if x0 = 1 then (K 24652 M) else (K 24588 M)))) : mm_CI mX2_factsOf d [.int x0] M K := by
  show mm_W mX2_factsOf d 0 0 0 [(0, .int x0)] [] mm_SH M 0 0 (mm_PI K)
  refine mm_iload_n (pc := 0) (j := 0) dX2_factsOf_0 rfl rfl ?_
  refine mm_iconst (pc := 1) (x := 3) dX2_factsOf_1 rfl ?_
  refine mm_icmp_ne (pc := 2) (tgt := 8) dX2_factsOf_2 (by decide) (fun hc => ?_) (fun hc => ?_)
  · have h := mm_iff hc h
    refine mm_iload_n (pc := 8) (j := 0) dX2_factsOf_8 rfl rfl ?_
    refine mm_if_eq (pc := 9) (tgt := 17) dX2_factsOf_9 (by decide) (fun hc => ?_) (fun hc => ?_)
    · have h := mm_ift hc h
      refine mm_sipush (pc := 17) (x := 24652) dX2_factsOf_17 rfl ?_
      refine mm_goto (pc := 20) (tgt := 26) dX2_factsOf_20 (by decide) ?_
      exact mm_iret (pc := 26) dX2_factsOf_26 rfl (Nat.le_refl 0) (Nat.le_refl 0) ⟨_, rfl, rfl, hG, h⟩
    · have h := mm_iff hc h
      refine mm_iload_n (pc := 12) (j := 0) dX2_factsOf_12 rfl rfl ?_
      refine mm_iconst (pc := 13) (x := 1) dX2_factsOf_13 rfl ?_
      refine mm_icmp_ne (pc := 14) (tgt := 23) dX2_factsOf_14 (by decide) (fun hc => ?_) (fun hc => ?_)
      · have h := mm_iff hc h
        refine mm_sipush (pc := 23) (x := 24588) dX2_factsOf_23 rfl ?_
        exact mm_iret (pc := 26) dX2_factsOf_26 rfl (Nat.le_refl 0) (Nat.le_refl 0) ⟨_, rfl, rfl, hG, h⟩
      · have h := mm_ift hc h
        refine mm_sipush (pc := 17) (x := 24652) dX2_factsOf_17 rfl ?_
        refine mm_goto (pc := 20) (tgt := 26) dX2_factsOf_20 (by decide) ?_
        exact mm_iret (pc := 26) dX2_factsOf_26 rfl (Nat.le_refl 0) (Nat.le_refl 0) ⟨_, rfl, rfl, hG, h⟩
  · have h := mm_ift hc h
    refine mm_ldc (pc := 5) (x := 41024) dX2_factsOf_5 cX2_143 ?_
    exact mm_iret (pc := 7) dX2_factsOf_7 rfl (Nat.le_refl 0) (Nat.le_refl 0) ⟨_, rfl, rfl, hG, h⟩
