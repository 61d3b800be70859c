set_option maxRecDepth 100000 in
set_option maxHeartbeats 4000000 in
theorem rX7_clear {d : Nat} {a : Nat} {M : mm_M} {K : Int32 → mm_M → Prop} (ha : a ∈ mm_Rls) (hG : mm_G M.2.2) (h : mm_CV mJ7_fill_53178 d [.ref (a + 1), .int 0] (mm_uI (mm_uI (mm_uI (mm_uI M a 0 0) a 1 0) a 2 0) a 3 0) (fun m25 => mm_CV mJ7_fill_53178 d [.ref (a + 2), .int 0] m25 (fun m33 => mm_CV mJ7_fill_53178 d [.ref (a + 3), .int 0] m33 (fun m41 => mm_CV mJ7_fill_53178 d [.ref (a + 4), .int 0] m41 (fun m49 => mm_CV mX7_place d [.ref a, .int 0, .int 0, .int 1] (mm_uI (mm_uI (mm_uI (mm_uI (mm_uI (mm_uI m49 (a + 5) (0 : Int32).toNatClampNeg 10006) (a + 5) (1 : Int32).toNatClampNeg 10003) (a + 5) (2 : Int32).toNatClampNeg 10014) (a + 5) (3 : Int32).toNatClampNeg 5) (a + 5) (4 : Int32).toNatClampNeg (-6)) (a + 5) (5 : Int32).toNatClampNeg 1) (fun m105 => mm_CV mX7_place d [.ref a, .int 1, .int 1, .int 2] m105 (fun m112 => mm_CV mX7_place d [.ref a, .int 2, .int 2, .int 5] m112 (fun m119 => mm_CV mX7_place d [.ref a, .int 3, .int 0, .int 1] m119 (fun m126 => mm_CV mX7_place d [.ref a, .int 4, .int 5, .int 6] m126 (fun m134 => K 6 m134)))))))))) : mm_CI mX7_clear (d + 1) [.ref a] M K := by
  show mm_W mX7_clear (d + 1) 0 0 0 [(0, .ref a)] [] mm_SH M 0 0 (mm_PI K)
  refine mm_aload_n (pc := 0) (j := 0) dX7_clear_0 rfl rfl ?_
  refine mm_iconst (pc := 1) (x := 0) dX7_clear_1 rfl ?_
  refine mm_putI (pc := 2) (ci := 7) (N := 11) dX7_clear_2 fX7_33 (sh_Rl ha) (by decide +kernel) rfl rfl rfl ?_
  refine mm_aload_n (pc := 5) (j := 0) dX7_clear_5 rfl rfl ?_
  refine mm_iconst (pc := 6) (x := 0) dX7_clear_6 rfl ?_
  refine mm_putI (pc := 7) (ci := 7) (N := 11) dX7_clear_7 fX7_37 (sh_Rl ha) (by decide +kernel) rfl rfl rfl ?_
  refine mm_aload_n (pc := 10) (j := 0) dX7_clear_10 rfl rfl ?_
  refine mm_iconst (pc := 11) (x := 0) dX7_clear_11 rfl ?_
  refine mm_putI (pc := 12) (ci := 7) (N := 11) dX7_clear_12 fX7_40 (sh_Rl ha) (by decide +kernel) rfl rfl rfl ?_
  refine mm_aload_n (pc := 15) (j := 0) dX7_clear_15 rfl rfl ?_
  refine mm_iconst (pc := 16) (x := 0) dX7_clear_16 rfl ?_
  refine mm_putI (pc := 17) (ci := 7) (N := 11) dX7_clear_17 fX7_43 (sh_Rl ha) (by decide +kernel) rfl rfl rfl ?_
  refine mm_aload_n (pc := 20) (j := 0) dX7_clear_20 rfl rfl ?_
  refine mm_getR (pc := 21) (ci := 7) (N := 11) (r := a + 1) dX7_clear_21 fX7_9 (sh_Rl ha) rfl (g_Rl_4 hG ha) ?_
  refine mm_iconst (pc := 24) (x := 0) dX7_clear_24 rfl ?_
  refine mm_kSV (pc := 25) [.ref (a + 1), .int 0] dX7_clear_25 kX7_46 rfl (Nat.le_of_ble_eq_true rfl) (Nat.le_of_ble_eq_true rfl) h (fun m25 hG h => ?_)
  refine mm_aload_n (pc := 28) (j := 0) dX7_clear_28 rfl rfl ?_
  refine mm_getR (pc := 29) (ci := 7) (N := 11) (r := a + 2) dX7_clear_29 fX7_15 (sh_Rl ha) rfl (g_Rl_5 hG ha) ?_
  refine mm_iconst (pc := 32) (x := 0) dX7_clear_32 rfl ?_
  refine mm_kSV (pc := 33) [.ref (a + 2), .int 0] dX7_clear_33 kX7_46 rfl (Nat.le_of_ble_eq_true rfl) (Nat.le_of_ble_eq_true rfl) h (fun m33 hG h => ?_)
  refine mm_aload_n (pc := 36) (j := 0) dX7_clear_36 rfl rfl ?_
  refine mm_getR (pc := 37) (ci := 7) (N := 11) (r := a + 3) dX7_clear_37 fX7_18 (sh_Rl ha) rfl (g_Rl_6 hG ha) ?_
  refine mm_iconst (pc := 40) (x := 0) dX7_clear_40 rfl ?_
  refine mm_kSV (pc := 41) [.ref (a + 3), .int 0] dX7_clear_41 kX7_46 rfl (Nat.le_of_ble_eq_true rfl) (Nat.le_of_ble_eq_true rfl) h (fun m41 hG h => ?_)
  refine mm_aload_n (pc := 44) (j := 0) dX7_clear_44 rfl rfl ?_
  refine mm_getR (pc := 45) (ci := 7) (N := 11) (r := a + 4) dX7_clear_45 fX7_21 (sh_Rl ha) rfl (g_Rl_7 hG ha) ?_
  refine mm_iconst (pc := 48) (x := 0) dX7_clear_48 rfl ?_
  refine mm_kSV (pc := 49) [.ref (a + 4), .int 0] dX7_clear_49 kX7_46 rfl (Nat.le_of_ble_eq_true rfl) (Nat.le_of_ble_eq_true rfl) h (fun m49 hG h => ?_)
  refine mm_aload_n (pc := 52) (j := 0) dX7_clear_52 rfl rfl ?_
  refine mm_getR (pc := 53) (ci := 7) (N := 11) (r := a + 5) dX7_clear_53 fX7_24 (sh_Rl ha) rfl (g_Rl_8 hG ha) ?_
  refine mm_iconst (pc := 56) (x := 0) dX7_clear_56 rfl ?_
  refine mm_sipush (pc := 57) (x := 10006) dX7_clear_57 rfl ?_
  refine mm_iastore (pc := 60) (N := 1608) dX7_clear_60 (sh_Rl_5 ha) (mm_vin (k := 0) rfl (by decide) (by decide)) ?_
  refine mm_aload_n (pc := 61) (j := 0) dX7_clear_61 rfl rfl ?_
  refine mm_getR (pc := 62) (ci := 7) (N := 11) (r := a + 5) dX7_clear_62 fX7_24 (sh_Rl ha) rfl (g_Rl_8 hG ha) ?_
  refine mm_iconst (pc := 65) (x := 1) dX7_clear_65 rfl ?_
  refine mm_sipush (pc := 66) (x := 10003) dX7_clear_66 rfl ?_
  refine mm_iastore (pc := 69) (N := 1608) dX7_clear_69 (sh_Rl_5 ha) (mm_vin (k := 1) rfl (by decide) (by decide)) ?_
  refine mm_aload_n (pc := 70) (j := 0) dX7_clear_70 rfl rfl ?_
  refine mm_getR (pc := 71) (ci := 7) (N := 11) (r := a + 5) dX7_clear_71 fX7_24 (sh_Rl ha) rfl (g_Rl_8 hG ha) ?_
  refine mm_iconst (pc := 74) (x := 2) dX7_clear_74 rfl ?_
  refine mm_sipush (pc := 75) (x := 10014) dX7_clear_75 rfl ?_
  refine mm_iastore (pc := 78) (N := 1608) dX7_clear_78 (sh_Rl_5 ha) (mm_vin (k := 2) rfl (by decide) (by decide)) ?_
  refine mm_aload_n (pc := 79) (j := 0) dX7_clear_79 rfl rfl ?_
  refine mm_getR (pc := 80) (ci := 7) (N := 11) (r := a + 5) dX7_clear_80 fX7_24 (sh_Rl ha) rfl (g_Rl_8 hG ha) ?_
  refine mm_iconst (pc := 83) (x := 3) dX7_clear_83 rfl ?_
  refine mm_iconst (pc := 84) (x := 5) dX7_clear_84 rfl ?_
  refine mm_iastore (pc := 85) (N := 1608) dX7_clear_85 (sh_Rl_5 ha) (mm_vin (k := 3) rfl (by decide) (by decide)) ?_
  refine mm_aload_n (pc := 86) (j := 0) dX7_clear_86 rfl rfl ?_
  refine mm_getR (pc := 87) (ci := 7) (N := 11) (r := a + 5) dX7_clear_87 fX7_24 (sh_Rl ha) rfl (g_Rl_8 hG ha) ?_
  refine mm_iconst (pc := 90) (x := 4) dX7_clear_90 rfl ?_
  refine mm_bipush (pc := 91) (x := (-6)) dX7_clear_91 rfl ?_
  refine mm_iastore (pc := 93) (N := 1608) dX7_clear_93 (sh_Rl_5 ha) (mm_vin (k := 4) rfl (by decide) (by decide)) ?_
  refine mm_aload_n (pc := 94) (j := 0) dX7_clear_94 rfl rfl ?_
  refine mm_getR (pc := 95) (ci := 7) (N := 11) (r := a + 5) dX7_clear_95 fX7_24 (sh_Rl ha) rfl (g_Rl_8 hG ha) ?_
  refine mm_iconst (pc := 98) (x := 5) dX7_clear_98 rfl ?_
  refine mm_iconst (pc := 99) (x := 1) dX7_clear_99 rfl ?_
  refine mm_iastore (pc := 100) (N := 1608) dX7_clear_100 (sh_Rl_5 ha) (mm_vin (k := 5) rfl (by decide) (by decide)) ?_
  refine mm_aload_n (pc := 101) (j := 0) dX7_clear_101 rfl rfl ?_
  refine mm_iconst (pc := 102) (x := 0) dX7_clear_102 rfl ?_
  refine mm_iconst (pc := 103) (x := 0) dX7_clear_103 rfl ?_
  refine mm_iconst (pc := 104) (x := 1) dX7_clear_104 rfl ?_
  refine mm_kVV (pc := 105) [.int 0, .int 0, .int 1] dX7_clear_105 kX7_56 rfl (sh_Rl ha) (Nat.le_of_ble_eq_true rfl) (Nat.le_of_ble_eq_true rfl) h (fun m105 hG h => ?_)
  refine mm_aload_n (pc := 108) (j := 0) dX7_clear_108 rfl rfl ?_
  refine mm_iconst (pc := 109) (x := 1) dX7_clear_109 rfl ?_
  refine mm_iconst (pc := 110) (x := 1) dX7_clear_110 rfl ?_
  refine mm_iconst (pc := 111) (x := 2) dX7_clear_111 rfl ?_
  refine mm_kVV (pc := 112) [.int 1, .int 1, .int 2] dX7_clear_112 kX7_56 rfl (sh_Rl ha) (Nat.le_of_ble_eq_true rfl) (Nat.le_of_ble_eq_true rfl) h (fun m112 hG h => ?_)
  refine mm_aload_n (pc := 115) (j := 0) dX7_clear_115 rfl rfl ?_
  refine mm_iconst (pc := 116) (x := 2) dX7_clear_116 rfl ?_
  refine mm_iconst (pc := 117) (x := 2) dX7_clear_117 rfl ?_
  refine mm_iconst (pc := 118) (x := 5) dX7_clear_118 rfl ?_
  refine mm_kVV (pc := 119) [.int 2, .int 2, .int 5] dX7_clear_119 kX7_56 rfl (sh_Rl ha) (Nat.le_of_ble_eq_true rfl) (Nat.le_of_ble_eq_true rfl) h (fun m119 hG h => ?_)
  refine mm_aload_n (pc := 122) (j := 0) dX7_clear_122 rfl rfl ?_
  refine mm_iconst (pc := 123) (x := 3) dX7_clear_123 rfl ?_
  refine mm_iconst (pc := 124) (x := 0) dX7_clear_124 rfl ?_
  refine mm_iconst (pc := 125) (x := 1) dX7_clear_125 rfl ?_
  refine mm_kVV (pc := 126) [.int 3, .int 0, .int 1] dX7_clear_126 kX7_56 rfl (sh_Rl ha) (Nat.le_of_ble_eq_true rfl) (Nat.le_of_ble_eq_true rfl) h (fun m126 hG h => ?_)
  refine mm_aload_n (pc := 129) (j := 0) dX7_clear_129 rfl rfl ?_
  refine mm_iconst (pc := 130) (x := 4) dX7_clear_130 rfl ?_
  refine mm_iconst (pc := 131) (x := 5) dX7_clear_131 rfl ?_
  refine mm_bipush (pc := 132) (x := 6) dX7_clear_132 rfl ?_
  refine mm_kVV (pc := 134) [.int 4, .int 5, .int 6] dX7_clear_134 kX7_56 rfl (sh_Rl ha) (Nat.le_of_ble_eq_true rfl) (Nat.le_of_ble_eq_true rfl) h (fun m134 hG h => ?_)
  refine mm_bipush (pc := 137) (x := 6) dX7_clear_137 rfl ?_
  exact mm_iret (pc := 139) dX7_clear_139 rfl (Nat.le_refl 0) (Nat.le_refl 0) ⟨_, rfl, rfl, hG, h⟩
set_option maxRecDepth 100000 in
set_option maxHeartbeats 4000000 in
theorem rX7_place {d : Nat} {a : Nat} {x1 : Int32} {x2 : Int32} {x3 : Int32} {M : mm_M} {K : mm_M → Prop} (ha : a ∈ mm_Rls) (hG : mm_G M.2.2) (h : if x1 < 0 then (K M) else (if 5 ≤ x1 then (K M) else (vp_in x1 5 ∧ vp_in x1 5 ∧ K (mm_uI (mm_uI M (a + 6) x1.toNatClampNeg x2) (a + 7) x1.toNatClampNeg x3)))) : mm_CV mX7_place d [.ref a, .int x1, .int x2, .int x3] M K := by
  show mm_W mX7_place d 0 0 0 [(0, .ref a), (1, .int x1), (2, .int x2), (3, .int x3)] [] mm_SH M 0 0 (mm_PV K)
  refine mm_iload_n (pc := 0) (j := 1) dX7_place_0 rfl rfl ?_
  refine mm_if_lt (pc := 1) (tgt := 23) dX7_place_1 (by decide) (fun hc => ?_) (fun hc => ?_)
  · have h := mm_ift hc h
    exact mm_vret (pc := 23) dX7_place_23 rfl (Nat.le_refl 0) (Nat.le_refl 0) ⟨rfl, rfl, hG, h⟩
  · have h := mm_iff hc h
    refine mm_iload_n (pc := 4) (j := 1) dX7_place_4 rfl rfl ?_
    refine mm_iconst (pc := 5) (x := 5) dX7_place_5 rfl ?_
    refine mm_icmp_ge (pc := 6) (tgt := 23) dX7_place_6 (by decide) (fun hc => ?_) (fun hc => ?_)
    · have h := mm_ift hc h
      exact mm_vret (pc := 23) dX7_place_23 rfl (Nat.le_refl 0) (Nat.le_refl 0) ⟨rfl, rfl, hG, h⟩
    · have h := mm_iff hc h
      refine mm_aload_n (pc := 9) (j := 0) dX7_place_9 rfl rfl ?_
      refine mm_getR (pc := 10) (ci := 7) (N := 11) (r := a + 6) dX7_place_10 fX7_27 (sh_Rl ha) rfl (g_Rl_9 hG ha) ?_
      refine mm_iload_n (pc := 13) (j := 1) dX7_place_13 rfl rfl ?_
      refine mm_iload_n (pc := 14) (j := 2) dX7_place_14 rfl rfl ?_
      obtain ⟨hi15, h⟩ := h
      refine mm_iastore (pc := 15) (N := 5) dX7_place_15 (sh_Rl_6 ha) hi15 ?_
      refine mm_aload_n (pc := 16) (j := 0) dX7_place_16 rfl rfl ?_
      refine mm_getR (pc := 17) (ci := 7) (N := 11) (r := a + 7) dX7_place_17 fX7_30 (sh_Rl ha) rfl (g_Rl_10 hG ha) ?_
      refine mm_iload_n (pc := 20) (j := 1) dX7_place_20 rfl rfl ?_
      refine mm_iload_n (pc := 21) (j := 3) dX7_place_21 rfl rfl ?_
      obtain ⟨hi22, h⟩ := h
      refine mm_iastore (pc := 22) (N := 5) dX7_place_22 (sh_Rl_7 ha) hi22 ?_
      exact mm_vret (pc := 23) dX7_place_23 rfl (Nat.le_refl 0) (Nat.le_refl 0) ⟨rfl, rfl, hG, h⟩
def jX7_houseNamed_3 (d : Nat) (a : Nat) (r1 : Nat) (n1 : Nat) (x2 : Int32) (x3 : Int32) (M : mm_M) (K : Int32 → mm_M → Prop) (y2 : Int32) (y3 : Int32) (y4 : Int32) : Prop := mm_W mX7_houseNamed d 0 0 3 [(0, .ref a), (1, .ref r1), (2, .int y2), (3, .int y3), (4, .int y4)] [] mm_SH M 0 0 (mm_PI K)
def jX7_houseNamed_25 (d : Nat) (a : Nat) (r1 : Nat) (n1 : Nat) (x2 : Int32) (x3 : Int32) (M : mm_M) (K : Int32 → mm_M → Prop) (y2 : Int32) (y3 : Int32) (y4 : Int32) (y5 : Int32) (y6 : Int32) : Prop := mm_W mX7_houseNamed d 0 0 25 [(0, .ref a), (1, .ref r1), (2, .int y2), (3, .int y3), (4, .int y4), (5, .int y5), (6, .int y6)] [] mm_SH M 0 0 (mm_PI K)
def jX7_houseNamed_74 (d : Nat) (a : Nat) (r1 : Nat) (n1 : Nat) (x2 : Int32) (x3 : Int32) (M : mm_M) (K : Int32 → mm_M → Prop) (y2 : Int32) (y3 : Int32) (y4 : Int32) (y6 : Int32) (u0 : Int32) : Prop := mm_W mX7_houseNamed d 0 0 74 [(0, .ref a), (1, .ref r1), (2, .int y2), (3, .int y3), (4, .int y4), (6, .int y6)] [.int u0] mm_SH M 0 0 (mm_PI K)
set_option maxRecDepth 100000 in
set_option maxHeartbeats 4000000 in
theorem rX7_houseNamed {d : Nat} {a : Nat} {r1 : Nat} {n1 : Nat} {x2 : Int32} {x3 : Int32} {M : mm_M} {K : Int32 → mm_M → Prop} (ha : a ∈ mm_Rls) (hr1 : mm_SH[r1]? = some (0, n1)) (hG : mm_G M.2.2) (h : jX7_houseNamed_3 d a r1 n1 x2 x3 M K x2 x3 0) : mm_CI mX7_houseNamed d [.ref a, .ref r1, .int x2, .int x3] M K := by
  show mm_W mX7_houseNamed d 0 0 0 [(0, .ref a), (1, .ref r1), (2, .int x2), (3, .int x3)] [] mm_SH M 0 0 (mm_PI K)
  refine mm_iconst (pc := 0) (x := 0) dX7_houseNamed_0 rfl ?_
  refine mm_istore (pc := 1) (lv' := [(4, .int 0), (0, .ref a), (1, .ref r1), (2, .int x2), (3, .int x3)]) dX7_houseNamed_1 (by decide) rfl ?_
  exact mm_sub [1, 2, 3, 4, 0] rfl h
set_option maxRecDepth 100000 in
set_option maxHeartbeats 4000000 in
theorem lX7_houseNamed_3 {d : Nat} {a : Nat} {r1 : Nat} {n1 : Nat} {x2 : Int32} {x3 : Int32} {M : mm_M} {K : Int32 → mm_M → Prop} {y2 : Int32} {y3 : Int32} {y4 : Int32} (ha : a ∈ mm_Rls) (hr1 : mm_SH[r1]? = some (0, n1)) (hG : mm_G M.2.2) (h : if (M.1 a 2) ≤ y4 then (K (-1) M) else (if 7 ≤ y4 then (K (-1) M) else (jX7_houseNamed_25 d a r1 n1 x2 x3 M K y2 y3 y4 1 0))) : jX7_houseNamed_3 d a r1 n1 x2 x3 M K y2 y3 y4 := by
  unfold jX7_houseNamed_3
  refine mm_iload (pc := 3) (j := 4) dX7_houseNamed_3 rfl ?_
  refine mm_aload_n (pc := 5) (j := 0) dX7_houseNamed_5 rfl rfl ?_
  refine mm_getI (pc := 6) (ci := 7) (N := 11) dX7_houseNamed_6 fX7_40 (sh_Rl ha) rfl ?_
  refine mm_icmp_ge (pc := 9) (tgt := 121) dX7_houseNamed_9 (by decide) (fun hc => ?_) (fun hc => ?_)
  · have h := mm_ift hc h
    refine mm_iconst (pc := 121) (x := (-1)) dX7_houseNamed_121 rfl ?_
    exact mm_iret (pc := 122) dX7_houseNamed_122 rfl (Nat.le_refl 0) (Nat.le_refl 0) ⟨_, rfl, rfl, hG, h⟩
  · have h := mm_iff hc h
    refine mm_iload (pc := 12) (j := 4) dX7_houseNamed_12 rfl ?_
    refine mm_bipush (pc := 14) (x := 7) dX7_houseNamed_14 rfl ?_
    refine mm_icmp_ge (pc := 16) (tgt := 121) dX7_houseNamed_16 (by decide) (fun hc => ?_) (fun hc => ?_)
    · have h := mm_ift hc h
      refine mm_iconst (pc := 121) (x := (-1)) dX7_houseNamed_121 rfl ?_
      exact mm_iret (pc := 122) dX7_houseNamed_122 rfl (Nat.le_refl 0) (Nat.le_refl 0) ⟨_, rfl, rfl, hG, h⟩
    · have h := mm_iff hc h
      refine mm_iconst (pc := 19) (x := 1) dX7_houseNamed_19 rfl ?_
      refine mm_istore (pc := 20) (lv' := [(5, .int 1), (0, .ref a), (1, .ref r1), (2, .int y2), (3, .int y3), (4, .int y4)]) dX7_houseNamed_20 (by decide) rfl ?_
      refine mm_iconst (pc := 22) (x := 0) dX7_houseNamed_22 rfl ?_
      refine mm_istore (pc := 23) (lv' := [(6, .int 0), (5, .int 1), (0, .ref a), (1, .ref r1), (2, .int y2), (3, .int y3), (4, .int y4)]) dX7_houseNamed_23 (by decide) rfl ?_
      exact mm_sub [2, 3, 4, 5, 6, 1, 0] rfl h
set_option maxRecDepth 100000 in
set_option maxHeartbeats 4000000 in
theorem lX7_houseNamed_25 {d : Nat} {a : Nat} {r1 : Nat} {n1 : Nat} {x2 : Int32} {x3 : Int32} {M : mm_M} {K : Int32 → mm_M → Prop} {y2 : Int32} {y3 : Int32} {y4 : Int32} {y5 : Int32} {y6 : Int32} (ha : a ∈ mm_Rls) (hr1 : mm_SH[r1]? = some (0, n1)) (hG : mm_G M.2.2) (h : if 6 ≤ y6 then (if y5 = 0 then (jX7_houseNamed_3 d a r1 n1 x2 x3 M K y2 y3 (y4 + 1)) else (K y4 M)) else (if y5 = 0 then (if y5 = 0 then (jX7_houseNamed_3 d a r1 n1 x2 x3 M K y2 y3 (y4 + 1)) else (K y4 M)) else (if (y2 + y6) < 0 then (jX7_houseNamed_74 d a r1 n1 x2 x3 M K y2 y3 y4 y6 0) else (if y3 ≤ (y2 + y6) then (jX7_houseNamed_74 d a r1 n1 x2 x3 M K y2 y3 y4 y6 0) else (if (nI n1) ≤ (y2 + y6) then (jX7_houseNamed_74 d a r1 n1 x2 x3 M K y2 y3 y4 y6 0) else (vp_in (y2 + y6) n1 ∧ jX7_houseNamed_74 d a r1 n1 x2 x3 M K y2 y3 y4 y6 (((M.1 r1 (y2 + y6).toNatClampNeg) - 97) + 1))))))) : jX7_houseNamed_25 d a r1 n1 x2 x3 M K y2 y3 y4 y5 y6 := by
  unfold jX7_houseNamed_25
  refine mm_iload (pc := 25) (j := 6) dX7_houseNamed_25 rfl ?_
  refine mm_bipush (pc := 27) (x := 6) dX7_houseNamed_27 rfl ?_
  refine mm_icmp_ge (pc := 29) (tgt := 107) dX7_houseNamed_29 (by decide) (fun hc => ?_) (fun hc => ?_)
  · have h := mm_ift hc h
    refine mm_iload (pc := 107) (j := 5) dX7_houseNamed_107 rfl ?_
    refine mm_if_eq (pc := 109) (tgt := 115) dX7_houseNamed_109 (by decide) (fun hc => ?_) (fun hc => ?_)
    · have h := mm_ift hc h
      refine mm_iinc (pc := 115) (j := 4) (v := y4 + 1) (lv' := [(4, .int (y4 + 1)), (0, .ref a), (1, .ref r1), (2, .int y2), (3, .int y3), (5, .int y5), (6, .int y6)]) dX7_houseNamed_115 rfl rfl (by decide) rfl ?_
      refine mm_goto (pc := 118) (tgt := 3) dX7_houseNamed_118 (by decide) ?_
      exact mm_sub [1, 2, 3, 4, 0] rfl h
    · have h := mm_iff hc h
      refine mm_iload (pc := 112) (j := 4) dX7_houseNamed_112 rfl ?_
      exact mm_iret (pc := 114) dX7_houseNamed_114 rfl (Nat.le_refl 0) (Nat.le_refl 0) ⟨_, rfl, rfl, hG, h⟩
  · have h := mm_iff hc h
    refine mm_iload (pc := 32) (j := 5) dX7_houseNamed_32 rfl ?_
    refine mm_if_eq (pc := 34) (tgt := 107) dX7_houseNamed_34 (by decide) (fun hc => ?_) (fun hc => ?_)
    · have h := mm_ift hc h
      refine mm_iload (pc := 107) (j := 5) dX7_houseNamed_107 rfl ?_
      refine mm_if_eq (pc := 109) (tgt := 115) dX7_houseNamed_109 (by decide) (fun hc => ?_) (fun hc => ?_)
      · have h := mm_ift hc h
        refine mm_iinc (pc := 115) (j := 4) (v := y4 + 1) (lv' := [(4, .int (y4 + 1)), (0, .ref a), (1, .ref r1), (2, .int y2), (3, .int y3), (5, .int y5), (6, .int y6)]) dX7_houseNamed_115 rfl rfl (by decide) rfl ?_
        refine mm_goto (pc := 118) (tgt := 3) dX7_houseNamed_118 (by decide) ?_
        exact mm_sub [1, 2, 3, 4, 0] rfl h
      · have h := mm_iff hc h
        refine mm_iload (pc := 112) (j := 4) dX7_houseNamed_112 rfl ?_
        exact mm_iret (pc := 114) dX7_houseNamed_114 rfl (Nat.le_refl 0) (Nat.le_refl 0) ⟨_, rfl, rfl, hG, h⟩
    · have h := mm_iff hc h
      refine mm_iload_n (pc := 37) (j := 2) dX7_houseNamed_37 rfl rfl ?_
      refine mm_iload (pc := 38) (j := 6) dX7_houseNamed_38 rfl ?_
      refine mm_iadd (pc := 40) dX7_houseNamed_40 ?_
      refine mm_istore (pc := 41) (lv' := [(7, .int (y2 + y6)), (0, .ref a), (1, .ref r1), (2, .int y2), (3, .int y3), (4, .int y4), (5, .int y5), (6, .int y6)]) dX7_houseNamed_41 (by decide) rfl ?_
      refine mm_iload (pc := 43) (j := 0) dX7_houseNamed_43 rfl ?_
      refine mm_if_lt (pc := 45) (tgt := 73) dX7_houseNamed_45 (by decide) (fun hc => ?_) (fun hc => ?_)
      · have h := mm_ift hc h
        refine mm_iconst (pc := 73) (x := 0) dX7_houseNamed_73 rfl ?_
        exact mm_sub [1, 2, 3, 4, 5, 7] rfl h
      · have h := mm_iff hc h
        refine mm_iload (pc := 48) (j := 0) dX7_houseNamed_48 rfl ?_
        refine mm_iload_n (pc := 50) (j := 4) dX7_houseNamed_50 rfl rfl ?_
        refine mm_icmp_ge (pc := 51) (tgt := 73) dX7_houseNamed_51 (by decide) (fun hc => ?_) (fun hc => ?_)
        · have h := mm_ift hc h
          refine mm_iconst (pc := 73) (x := 0) dX7_houseNamed_73 rfl ?_
          exact mm_sub [1, 2, 3, 4, 5, 7] rfl h
        · have h := mm_iff hc h
          refine mm_iload (pc := 54) (j := 0) dX7_houseNamed_54 rfl ?_
          refine mm_aload_n (pc := 56) (j := 2) dX7_houseNamed_56 rfl rfl ?_
          refine mm_alen (pc := 57) (t := 0) (N := n1) dX7_houseNamed_57 hr1 (by decide) ?_
          refine mm_icmp_ge (pc := 58) (tgt := 73) dX7_houseNamed_58 (by decide) (fun hc => ?_) (fun hc => ?_)
          · have h := mm_ift hc h
            refine mm_iconst (pc := 73) (x := 0) dX7_houseNamed_73 rfl ?_
            exact mm_sub [1, 2, 3, 4, 5, 7] rfl h
          · have h := mm_iff hc h
            refine mm_aload_n (pc := 61) (j := 2) dX7_houseNamed_61 rfl rfl ?_
            refine mm_iload (pc := 62) (j := 0) dX7_houseNamed_62 rfl ?_
            obtain ⟨hi64, h⟩ := h
            refine mm_iaload (pc := 64) (N := n1) dX7_houseNamed_64 hr1 hi64 ?_
            refine mm_bipush (pc := 65) (x := 97) dX7_houseNamed_65 rfl ?_
            refine mm_isub (pc := 67) dX7_houseNamed_67 ?_
            refine mm_iconst (pc := 68) (x := 1) dX7_houseNamed_68 rfl ?_
            refine mm_iadd (pc := 69) dX7_houseNamed_69 ?_
            refine mm_goto (pc := 70) (tgt := 74) dX7_houseNamed_70 (by decide) ?_
            exact mm_sub [1, 2, 3, 4, 5, 7] rfl h
set_option maxRecDepth 100000 in
set_option maxHeartbeats 4000000 in
theorem lX7_houseNamed_74 {d : Nat} {a : Nat} {r1 : Nat} {n1 : Nat} {x2 : Int32} {x3 : Int32} {M : mm_M} {K : Int32 → mm_M → Prop} {y2 : Int32} {y3 : Int32} {y4 : Int32} {y6 : Int32} {u0 : Int32} (ha : a ∈ mm_Rls) (hr1 : mm_SH[r1]? = some (0, n1)) (hG : mm_G M.2.2) (h : vp_in ((y4 * 6) + y6) 42 ∧ if u0 = (M.1 (a + 1) ((y4 * 6) + y6).toNatClampNeg) then (jX7_houseNamed_25 d a r1 n1 x2 x3 M K y2 y3 y4 1 (y6 + 1)) else (jX7_houseNamed_25 d a r1 n1 x2 x3 M K y2 y3 y4 0 (y6 + 1))) : jX7_houseNamed_74 d a r1 n1 x2 x3 M K y2 y3 y4 y6 u0 := by
  unfold jX7_houseNamed_74
  refine mm_istore (pc := 74) (lv' := [(8, .int u0), (0, .ref a), (1, .ref r1), (2, .int y2), (3, .int y3), (4, .int y4), (6, .int y6)]) dX7_houseNamed_74 (by decide) rfl ?_
  refine mm_iload (pc := 76) (j := 0) dX7_houseNamed_76 rfl ?_
  refine mm_aload_n (pc := 78) (j := 1) dX7_houseNamed_78 rfl rfl ?_
  refine mm_getR (pc := 79) (ci := 7) (N := 11) (r := a + 1) dX7_houseNamed_79 fX7_9 (sh_Rl ha) rfl (g_Rl_4 hG ha) ?_
  refine mm_iload (pc := 82) (j := 5) dX7_houseNamed_82 rfl ?_
  refine mm_bipush (pc := 84) (x := 6) dX7_houseNamed_84 rfl ?_
  refine mm_imul (pc := 86) dX7_houseNamed_86 ?_
  refine mm_iload (pc := 87) (j := 6) dX7_houseNamed_87 rfl ?_
  refine mm_iadd (pc := 89) dX7_houseNamed_89 ?_
  obtain ⟨hi90, h⟩ := h
  refine mm_iaload (pc := 90) (N := 42) dX7_houseNamed_90 (sh_Rl_1 ha) hi90 ?_
  refine mm_icmp_ne (pc := 91) (tgt := 98) dX7_houseNamed_91 (by decide) (fun hc => ?_) (fun hc => ?_)
  · have h := mm_iff hc h
    refine mm_iconst (pc := 98) (x := 0) dX7_houseNamed_98 rfl ?_
    refine mm_istore (pc := 99) (lv' := [(5, .int 0), (8, .int u0), (0, .ref a), (1, .ref r1), (2, .int y2), (3, .int y3), (4, .int y4), (6, .int y6)]) dX7_houseNamed_99 (by decide) rfl ?_
    refine mm_iinc (pc := 101) (j := 7) (v := y6 + 1) (lv' := [(6, .int (y6 + 1)), (5, .int 0), (8, .int u0), (0, .ref a), (1, .ref r1), (2, .int y2), (3, .int y3), (4, .int y4)]) dX7_houseNamed_101 rfl rfl (by decide) rfl ?_
    refine mm_goto (pc := 104) (tgt := 25) dX7_houseNamed_104 (by decide) ?_
    exact mm_sub [3, 4, 5, 6, 7, 1, 0] rfl h
  · have h := mm_ift hc h
    refine mm_iconst (pc := 94) (x := 1) dX7_houseNamed_94 rfl ?_
    refine mm_goto (pc := 95) (tgt := 99) dX7_houseNamed_95 (by decide) ?_
    refine mm_istore (pc := 99) (lv' := [(5, .int 1), (8, .int u0), (0, .ref a), (1, .ref r1), (2, .int y2), (3, .int y3), (4, .int y4), (6, .int y6)]) dX7_houseNamed_99 (by decide) rfl ?_
    refine mm_iinc (pc := 101) (j := 7) (v := y6 + 1) (lv' := [(6, .int (y6 + 1)), (5, .int 1), (8, .int u0), (0, .ref a), (1, .ref r1), (2, .int y2), (3, .int y3), (4, .int y4)]) dX7_houseNamed_101 rfl rfl (by decide) rfl ?_
    refine mm_goto (pc := 104) (tgt := 25) dX7_houseNamed_104 (by decide) ?_
    exact mm_sub [3, 4, 5, 6, 7, 1, 0] rfl h
def jX7_nameNext_3 (d : Nat) (a : Nat) (r1 : Nat) (n1 : Nat) (x2 : Int32) (x3 : Int32) (M : mm_M) (K : mm_M → Prop) (y2 : Int32) (y3 : Int32) (y4 : Int32) : Prop := mm_W mX7_nameNext d 0 0 3 [(0, .ref a), (1, .ref r1), (2, .int y2), (3, .int y3), (4, .int y4)] [] mm_SH M 0 0 (mm_PV K)
def jX7_nameNext_55 (d : Nat) (a : Nat) (r1 : Nat) (n1 : Nat) (x2 : Int32) (x3 : Int32) (M : mm_M) (K : mm_M → Prop) (y2 : Int32) (y3 : Int32) (y4 : Int32) (y5 : Int32) (u0 : Int32) : Prop := mm_W mX7_nameNext d 0 0 55 [(0, .ref a), (1, .ref r1), (2, .int y2), (3, .int y3), (4, .int y4), (5, .int y5)] [.int u0] mm_SH M 0 0 (mm_PV K)
set_option maxRecDepth 100000 in
set_option maxHeartbeats 4000000 in
theorem rX7_nameNext {d : Nat} {a : Nat} {r1 : Nat} {n1 : Nat} {x2 : Int32} {x3 : Int32} {M : mm_M} {K : mm_M → Prop} (ha : a ∈ mm_Rls) (hr1 : mm_SH[r1]? = some (0, n1)) (hG : mm_G M.2.2) (h : jX7_nameNext_3 d a r1 n1 x2 x3 M K x2 x3 0) : mm_CV mX7_nameNext d [.ref a, .ref r1, .int x2, .int x3] M K := by
  show mm_W mX7_nameNext d 0 0 0 [(0, .ref a), (1, .ref r1), (2, .int x2), (3, .int x3)] [] mm_SH M 0 0 (mm_PV K)
  refine mm_iconst (pc := 0) (x := 0) dX7_nameNext_0 rfl ?_
  refine mm_istore (pc := 1) (lv' := [(4, .int 0), (0, .ref a), (1, .ref r1), (2, .int x2), (3, .int x3)]) dX7_nameNext_1 (by decide) rfl ?_
  exact mm_sub [1, 2, 3, 4, 0] rfl h
set_option maxRecDepth 100000 in
set_option maxHeartbeats 4000000 in
theorem lX7_nameNext_3 {d : Nat} {a : Nat} {r1 : Nat} {n1 : Nat} {x2 : Int32} {x3 : Int32} {M : mm_M} {K : mm_M → Prop} {y2 : Int32} {y3 : Int32} {y4 : Int32} (ha : a ∈ mm_Rls) (hr1 : mm_SH[r1]? = some (0, n1)) (hG : mm_G M.2.2) (h : if 6 ≤ y4 then (K M) else (if (M.1 a 2) < 0 then (K M) else (if 7 ≤ (M.1 a 2) then (K M) else (if (y2 + y4) < 0 then (jX7_nameNext_55 d a r1 n1 x2 x3 M K y2 y3 y4 (y2 + y4) 0) else (if y3 ≤ (y2 + y4) then (jX7_nameNext_55 d a r1 n1 x2 x3 M K y2 y3 y4 (y2 + y4) 0) else (if (nI n1) ≤ (y2 + y4) then (jX7_nameNext_55 d a r1 n1 x2 x3 M K y2 y3 y4 (y2 + y4) 0) else (jX7_nameNext_55 d a r1 n1 x2 x3 M K y2 y3 y4 (y2 + y4) 1))))))) : jX7_nameNext_3 d a r1 n1 x2 x3 M K y2 y3 y4 := by
  unfold jX7_nameNext_3
  refine mm_iload (pc := 3) (j := 4) dX7_nameNext_3 rfl ?_
  refine mm_bipush (pc := 5) (x := 6) dX7_nameNext_5 rfl ?_
  refine mm_icmp_ge (pc := 7) (tgt := 96) dX7_nameNext_7 (by decide) (fun hc => ?_) (fun hc => ?_)
  · have h := mm_ift hc h
    exact mm_vret (pc := 96) dX7_nameNext_96 rfl (Nat.le_refl 0) (Nat.le_refl 0) ⟨rfl, rfl, hG, h⟩
  · have h := mm_iff hc h
    refine mm_aload_n (pc := 10) (j := 0) dX7_nameNext_10 rfl rfl ?_
    refine mm_getI (pc := 11) (ci := 7) (N := 11) dX7_nameNext_11 fX7_40 (sh_Rl ha) rfl ?_
    refine mm_if_lt (pc := 14) (tgt := 96) dX7_nameNext_14 (by decide) (fun hc => ?_) (fun hc => ?_)
    · have h := mm_ift hc h
      exact mm_vret (pc := 96) dX7_nameNext_96 rfl (Nat.le_refl 0) (Nat.le_refl 0) ⟨rfl, rfl, hG, h⟩
    · have h := mm_iff hc h
      refine mm_aload_n (pc := 17) (j := 0) dX7_nameNext_17 rfl rfl ?_
      refine mm_getI (pc := 18) (ci := 7) (N := 11) dX7_nameNext_18 fX7_40 (sh_Rl ha) rfl ?_
      refine mm_bipush (pc := 21) (x := 7) dX7_nameNext_21 rfl ?_
      refine mm_icmp_ge (pc := 23) (tgt := 96) dX7_nameNext_23 (by decide) (fun hc => ?_) (fun hc => ?_)
      · have h := mm_ift hc h
        exact mm_vret (pc := 96) dX7_nameNext_96 rfl (Nat.le_refl 0) (Nat.le_refl 0) ⟨rfl, rfl, hG, h⟩
      · have h := mm_iff hc h
        refine mm_iload_n (pc := 26) (j := 2) dX7_nameNext_26 rfl rfl ?_
        refine mm_iload (pc := 27) (j := 4) dX7_nameNext_27 rfl ?_
        refine mm_iadd (pc := 29) dX7_nameNext_29 ?_
        refine mm_istore (pc := 30) (lv' := [(5, .int (y2 + y4)), (0, .ref a), (1, .ref r1), (2, .int y2), (3, .int y3), (4, .int y4)]) dX7_nameNext_30 (by decide) rfl ?_
        refine mm_iload (pc := 32) (j := 0) dX7_nameNext_32 rfl ?_
        refine mm_if_lt (pc := 34) (tgt := 54) dX7_nameNext_34 (by decide) (fun hc => ?_) (fun hc => ?_)
        · have h := mm_ift hc h
          refine mm_iconst (pc := 54) (x := 0) dX7_nameNext_54 rfl ?_
          exact mm_sub [1, 2, 3, 4, 5, 0] rfl h
        · have h := mm_iff hc h
          refine mm_iload (pc := 37) (j := 0) dX7_nameNext_37 rfl ?_
          refine mm_iload_n (pc := 39) (j := 4) dX7_nameNext_39 rfl rfl ?_
          refine mm_icmp_ge (pc := 40) (tgt := 54) dX7_nameNext_40 (by decide) (fun hc => ?_) (fun hc => ?_)
          · have h := mm_ift hc h
            refine mm_iconst (pc := 54) (x := 0) dX7_nameNext_54 rfl ?_
            exact mm_sub [1, 2, 3, 4, 5, 0] rfl h
          · have h := mm_iff hc h
            refine mm_iload (pc := 43) (j := 0) dX7_nameNext_43 rfl ?_
            refine mm_aload_n (pc := 45) (j := 2) dX7_nameNext_45 rfl rfl ?_
            refine mm_alen (pc := 46) (t := 0) (N := n1) dX7_nameNext_46 hr1 (by decide) ?_
            refine mm_icmp_ge (pc := 47) (tgt := 54) dX7_nameNext_47 (by decide) (fun hc => ?_) (fun hc => ?_)
            · have h := mm_ift hc h
              refine mm_iconst (pc := 54) (x := 0) dX7_nameNext_54 rfl ?_
              exact mm_sub [1, 2, 3, 4, 5, 0] rfl h
            · have h := mm_iff hc h
              refine mm_iconst (pc := 50) (x := 1) dX7_nameNext_50 rfl ?_
              refine mm_goto (pc := 51) (tgt := 55) dX7_nameNext_51 (by decide) ?_
              exact mm_sub [1, 2, 3, 4, 5, 0] rfl h
set_option maxRecDepth 100000 in
set_option maxHeartbeats 4000000 in
theorem lX7_nameNext_55 {d : Nat} {a : Nat} {r1 : Nat} {n1 : Nat} {x2 : Int32} {x3 : Int32} {M : mm_M} {K : mm_M → Prop} {y2 : Int32} {y3 : Int32} {y4 : Int32} {y5 : Int32} {u0 : Int32} (ha : a ∈ mm_Rls) (hr1 : mm_SH[r1]? = some (0, n1)) (hG : mm_G M.2.2) (h : if u0 = 0 then (vp_in (((M.1 a 2) * 6) + y4) 42 ∧ jX7_nameNext_3 d a r1 n1 x2 x3 (mm_uI M (a + 1) (((M.1 a 2) * 6) + y4).toNatClampNeg 0) K y2 y3 (y4 + 1)) else (vp_in y5 n1 ∧ vp_in (((M.1 a 2) * 6) + y4) 42 ∧ jX7_nameNext_3 d a r1 n1 x2 x3 (mm_uI M (a + 1) (((M.1 a 2) * 6) + y4).toNatClampNeg (((M.1 r1 y5.toNatClampNeg) - 97) + 1)) K y2 y3 (y4 + 1))) : jX7_nameNext_55 d a r1 n1 x2 x3 M K y2 y3 y4 y5 u0 := by
  unfold jX7_nameNext_55
  refine mm_istore (pc := 55) (lv' := [(6, .int u0), (0, .ref a), (1, .ref r1), (2, .int y2), (3, .int y3), (4, .int y4), (5, .int y5)]) dX7_nameNext_55 (by decide) rfl ?_
  refine mm_aload_n (pc := 57) (j := 1) dX7_nameNext_57 rfl rfl ?_
  refine mm_getR (pc := 58) (ci := 7) (N := 11) (r := a + 1) dX7_nameNext_58 fX7_9 (sh_Rl ha) rfl (g_Rl_4 hG ha) ?_
  refine mm_aload_n (pc := 61) (j := 1) dX7_nameNext_61 rfl rfl ?_
  refine mm_getI (pc := 62) (ci := 7) (N := 11) dX7_nameNext_62 fX7_40 (sh_Rl ha) rfl ?_
  refine mm_bipush (pc := 65) (x := 6) dX7_nameNext_65 rfl ?_
  refine mm_imul (pc := 67) dX7_nameNext_67 ?_
  refine mm_iload (pc := 68) (j := 5) dX7_nameNext_68 rfl ?_
  refine mm_iadd (pc := 70) dX7_nameNext_70 ?_
  refine mm_iload (pc := 71) (j := 0) dX7_nameNext_71 rfl ?_
  refine mm_if_eq (pc := 73) (tgt := 88) dX7_nameNext_73 (by decide) (fun hc => ?_) (fun hc => ?_)
  · have h := mm_ift hc h
    refine mm_iconst (pc := 88) (x := 0) dX7_nameNext_88 rfl ?_
    obtain ⟨hi89, h⟩ := h
    refine mm_iastore (pc := 89) (N := 42) dX7_nameNext_89 (sh_Rl_1 ha) hi89 ?_
    refine mm_iinc (pc := 90) (j := 5) (v := y4 + 1) (lv' := [(4, .int (y4 + 1)), (6, .int u0), (0, .ref a), (1, .ref r1), (2, .int y2), (3, .int y3), (5, .int y5)]) dX7_nameNext_90 rfl rfl (by decide) rfl ?_
    refine mm_goto (pc := 93) (tgt := 3) dX7_nameNext_93 (by decide) ?_
    exact mm_sub [2, 3, 4, 5, 0] rfl h
  · have h := mm_iff hc h
    refine mm_aload_n (pc := 76) (j := 2) dX7_nameNext_76 rfl rfl ?_
    refine mm_iload (pc := 77) (j := 6) dX7_nameNext_77 rfl ?_
    obtain ⟨hi79, h⟩ := h
    refine mm_iaload (pc := 79) (N := n1) dX7_nameNext_79 hr1 hi79 ?_
    refine mm_bipush (pc := 80) (x := 97) dX7_nameNext_80 rfl ?_
    refine mm_isub (pc := 82) dX7_nameNext_82 ?_
    refine mm_iconst (pc := 83) (x := 1) dX7_nameNext_83 rfl ?_
    refine mm_iadd (pc := 84) dX7_nameNext_84 ?_
    refine mm_goto (pc := 85) (tgt := 89) dX7_nameNext_85 (by decide) ?_
    obtain ⟨hi89, h⟩ := h
    refine mm_iastore (pc := 89) (N := 42) dX7_nameNext_89 (sh_Rl_1 ha) hi89 ?_
    refine mm_iinc (pc := 90) (j := 5) (v := y4 + 1) (lv' := [(4, .int (y4 + 1)), (6, .int u0), (0, .ref a), (1, .ref r1), (2, .int y2), (3, .int y3), (5, .int y5)]) dX7_nameNext_90 rfl rfl (by decide) rfl ?_
    refine mm_goto (pc := 93) (tgt := 3) dX7_nameNext_93 (by decide) ?_
    exact mm_sub [2, 3, 4, 5, 0] rfl h
set_option maxRecDepth 100000 in
set_option maxHeartbeats 4000000 in
theorem rX7_addNext {d : Nat} {a : Nat} {x1 : Int32} {x2 : Int32} {M : mm_M} {K : mm_M → Prop} (ha : a ∈ mm_Rls) (hG : mm_G M.2.2) (h : if (M.1 a 2) < 0 then (K M) else (if 7 ≤ (M.1 a 2) then (K M) else (vp_in (M.1 a 2) 7 ∧ vp_in ((mm_uI M (a + 2) (M.1 a 2).toNatClampNeg x1).1 a 2) 7 ∧ K (mm_uI (mm_uI (mm_uI M (a + 2) (M.1 a 2).toNatClampNeg x1) (a + 3) ((mm_uI M (a + 2) (M.1 a 2).toNatClampNeg x1).1 a 2).toNatClampNeg x2) a 2 (((mm_uI (mm_uI M (a + 2) (M.1 a 2).toNatClampNeg x1) (a + 3) ((mm_uI M (a + 2) (M.1 a 2).toNatClampNeg x1).1 a 2).toNatClampNeg x2).1 a 2) + 1))))) : mm_CV mX7_addNext d [.ref a, .int x1, .int x2] M K := by
  show mm_W mX7_addNext d 0 0 0 [(0, .ref a), (1, .int x1), (2, .int x2)] [] mm_SH M 0 0 (mm_PV K)
  refine mm_aload_n (pc := 0) (j := 0) dX7_addNext_0 rfl rfl ?_
  refine mm_getI (pc := 1) (ci := 7) (N := 11) dX7_addNext_1 fX7_40 (sh_Rl ha) rfl ?_
  refine mm_if_lt (pc := 4) (tgt := 46) dX7_addNext_4 (by decide) (fun hc => ?_) (fun hc => ?_)
  · have h := mm_ift hc h
    exact mm_vret (pc := 46) dX7_addNext_46 rfl (Nat.le_refl 0) (Nat.le_refl 0) ⟨rfl, rfl, hG, h⟩
  · have h := mm_iff hc h
    refine mm_aload_n (pc := 7) (j := 0) dX7_addNext_7 rfl rfl ?_
    refine mm_getI (pc := 8) (ci := 7) (N := 11) dX7_addNext_8 fX7_40 (sh_Rl ha) rfl ?_
    refine mm_bipush (pc := 11) (x := 7) dX7_addNext_11 rfl ?_
    refine mm_icmp_ge (pc := 13) (tgt := 46) dX7_addNext_13 (by decide) (fun hc => ?_) (fun hc => ?_)
    · have h := mm_ift hc h
      exact mm_vret (pc := 46) dX7_addNext_46 rfl (Nat.le_refl 0) (Nat.le_refl 0) ⟨rfl, rfl, hG, h⟩
    · have h := mm_iff hc h
      refine mm_aload_n (pc := 16) (j := 0) dX7_addNext_16 rfl rfl ?_
      refine mm_getR (pc := 17) (ci := 7) (N := 11) (r := a + 2) dX7_addNext_17 fX7_15 (sh_Rl ha) rfl (g_Rl_5 hG ha) ?_
      refine mm_aload_n (pc := 20) (j := 0) dX7_addNext_20 rfl rfl ?_
      refine mm_getI (pc := 21) (ci := 7) (N := 11) dX7_addNext_21 fX7_40 (sh_Rl ha) rfl ?_
      refine mm_iload_n (pc := 24) (j := 1) dX7_addNext_24 rfl rfl ?_
      obtain ⟨hi25, h⟩ := h
      refine mm_iastore (pc := 25) (N := 7) dX7_addNext_25 (sh_Rl_2 ha) hi25 ?_
      refine mm_aload_n (pc := 26) (j := 0) dX7_addNext_26 rfl rfl ?_
      refine mm_getR (pc := 27) (ci := 7) (N := 11) (r := a + 3) dX7_addNext_27 fX7_18 (sh_Rl ha) rfl (g_Rl_6 hG ha) ?_
      refine mm_aload_n (pc := 30) (j := 0) dX7_addNext_30 rfl rfl ?_
      refine mm_getI (pc := 31) (ci := 7) (N := 11) dX7_addNext_31 fX7_40 (sh_Rl ha) rfl ?_
      refine mm_iload_n (pc := 34) (j := 2) dX7_addNext_34 rfl rfl ?_
      obtain ⟨hi35, h⟩ := h
      refine mm_iastore (pc := 35) (N := 7) dX7_addNext_35 (sh_Rl_3 ha) hi35 ?_
      refine mm_aload_n (pc := 36) (j := 0) dX7_addNext_36 rfl rfl ?_
      refine mm_dup (pc := 37) dX7_addNext_37 rfl ?_
      refine mm_getI (pc := 38) (ci := 7) (N := 11) dX7_addNext_38 fX7_40 (sh_Rl ha) rfl ?_
      refine mm_iconst (pc := 41) (x := 1) dX7_addNext_41 rfl ?_
      refine mm_iadd (pc := 42) dX7_addNext_42 ?_
      refine mm_putI (pc := 43) (ci := 7) (N := 11) dX7_addNext_43 fX7_40 (sh_Rl ha) (by decide +kernel) rfl rfl rfl ?_
      exact mm_vret (pc := 46) dX7_addNext_46 rfl (Nat.le_refl 0) (Nat.le_refl 0) ⟨rfl, rfl, hG, h⟩
set_option maxRecDepth 100000 in
set_option maxHeartbeats 4000000 in
theorem rX9_begin {d : Nat} {a : Nat} {a1 : Nat} {M : mm_M} {K : mm_M → Prop} (ha : a ∈ mm_Sts) (ha1 : a1 ∈ mm_Rls) (hG : mm_G M.2.2) (h : mm_CV mJ7_fill_53178 d [.ref (a + 2), .int 0] (mm_cp (mm_cp (mm_uI (mm_uI (mm_uI M a 0 0) a 1 (((1 : Int32) <<< (((mm_uI M a 0 0).1 a1 2) &&& 31)) - 1)) a 2 0) (a1 + 2) (a + 1) (0 : Int32).toNatClampNeg (0 : Int32).toNatClampNeg (7 : Int32).toNatClampNeg) (a1 + 4) (a + 3) (0 : Int32).toNatClampNeg (0 : Int32).toNatClampNeg (64 : Int32).toNatClampNeg) (fun m57 => K m57)) : mm_CV mX9_begin (d + 1) [.ref a, .ref a1] M K := by
  show mm_W mX9_begin (d + 1) 0 0 0 [(0, .ref a), (1, .ref a1)] [] mm_SH M 0 0 (mm_PV K)
  refine mm_aload_n (pc := 0) (j := 0) dX9_begin_0 rfl rfl ?_
  refine mm_iconst (pc := 1) (x := 0) dX9_begin_1 rfl ?_
  refine mm_putI (pc := 2) (ci := 9) (N := 7) dX9_begin_2 fX9_24 (sh_St ha) (by decide +kernel) rfl rfl rfl ?_
  refine mm_aload_n (pc := 5) (j := 0) dX9_begin_5 rfl rfl ?_
  refine mm_iconst (pc := 6) (x := 1) dX9_begin_6 rfl ?_
  refine mm_aload_n (pc := 7) (j := 1) dX9_begin_7 rfl rfl ?_
  refine mm_getI (pc := 8) (ci := 7) (N := 11) dX9_begin_8 fX9_28 (sh_Rl ha1) rfl ?_
  refine mm_ishl (pc := 11) dX9_begin_11 ?_
  refine mm_iconst (pc := 12) (x := 1) dX9_begin_12 rfl ?_
  refine mm_isub (pc := 13) dX9_begin_13 ?_
  refine mm_putI (pc := 14) (ci := 9) (N := 7) dX9_begin_14 fX9_33 (sh_St ha) (by decide +kernel) rfl rfl rfl ?_
  refine mm_aload_n (pc := 17) (j := 0) dX9_begin_17 rfl rfl ?_
  refine mm_iconst (pc := 18) (x := 0) dX9_begin_18 rfl ?_
  refine mm_putI (pc := 19) (ci := 9) (N := 7) dX9_begin_19 fX9_36 (sh_St ha) (by decide +kernel) rfl rfl rfl ?_
  refine mm_aload_n (pc := 22) (j := 1) dX9_begin_22 rfl rfl ?_
  refine mm_getR (pc := 23) (ci := 7) (N := 11) (r := a1 + 2) dX9_begin_23 fX9_39 (sh_Rl ha1) rfl (g_Rl_5 hG ha1) ?_
  refine mm_iconst (pc := 26) (x := 0) dX9_begin_26 rfl ?_
  refine mm_aload_n (pc := 27) (j := 0) dX9_begin_27 rfl rfl ?_
  refine mm_getR (pc := 28) (ci := 9) (N := 7) (r := a + 1) dX9_begin_28 fX9_9 (sh_St ha) rfl (g_St_3 hG ha) ?_
  refine mm_iconst (pc := 31) (x := 0) dX9_begin_31 rfl ?_
  refine mm_bipush (pc := 32) (x := 7) dX9_begin_32 rfl ?_
  refine mm_copy (pc := 34) (n0 := 7) (n1 := 7) dX9_begin_34 kX9_40 ac_nat ac_sta ac_ini (sh_Rl_2 ha1) (sh_St_1 ha) (by decide +kernel) (by decide +kernel) (by decide +kernel) (by decide +kernel) (by decide +kernel) (Nat.le_of_ble_eq_true rfl) ?_
  refine mm_aload_n (pc := 37) (j := 1) dX9_begin_37 rfl rfl ?_
  refine mm_getR (pc := 38) (ci := 7) (N := 11) (r := a1 + 4) dX9_begin_38 fX9_46 (sh_Rl ha1) rfl (g_Rl_7 hG ha1) ?_
  refine mm_iconst (pc := 41) (x := 0) dX9_begin_41 rfl ?_
  refine mm_aload_n (pc := 42) (j := 0) dX9_begin_42 rfl rfl ?_
  refine mm_getR (pc := 43) (ci := 9) (N := 7) (r := a + 3) dX9_begin_43 fX9_18 (sh_St ha) rfl (g_St_5 hG ha) ?_
  refine mm_iconst (pc := 46) (x := 0) dX9_begin_46 rfl ?_
  refine mm_bipush (pc := 47) (x := 64) dX9_begin_47 rfl ?_
  refine mm_copy (pc := 49) (n0 := 64) (n1 := 64) dX9_begin_49 kX9_40 ac_nat ac_sta ac_ini (sh_Rl_4 ha1) (sh_St_3 ha) (by decide +kernel) (by decide +kernel) (by decide +kernel) (by decide +kernel) (by decide +kernel) (Nat.le_of_ble_eq_true rfl) ?_
  refine mm_aload_n (pc := 52) (j := 0) dX9_begin_52 rfl rfl ?_
  refine mm_getR (pc := 53) (ci := 9) (N := 7) (r := a + 2) dX9_begin_53 fX9_15 (sh_St ha) rfl (g_St_4 hG ha) ?_
  refine mm_iconst (pc := 56) (x := 0) dX9_begin_56 rfl ?_
  refine mm_kSV (pc := 57) [.ref (a + 2), .int 0] dX9_begin_57 kX9_47 rfl (Nat.le_of_ble_eq_true rfl) (Nat.le_of_ble_eq_true rfl) h (fun m57 hG h => ?_)
  exact mm_vret (pc := 60) dX9_begin_60 rfl (Nat.le_refl 0) (Nat.le_refl 0) ⟨rfl, rfl, hG, h⟩
set_option maxRecDepth 100000 in
set_option maxHeartbeats 4000000 in
theorem rX9_copyFrom {d : Nat} {a : Nat} {a1 : Nat} {M : mm_M} {K : mm_M → Prop} (ha : a ∈ mm_Sts) (ha1 : a1 ∈ mm_Sts) (hG : mm_G M.2.2) (h : K (mm_cp (mm_cp (mm_cp (mm_cp (mm_uI (mm_uI (mm_uI M a 0 (M.1 a1 0)) a 1 ((mm_uI M a 0 (M.1 a1 0)).1 a1 1)) a 2 ((mm_uI (mm_uI M a 0 (M.1 a1 0)) a 1 ((mm_uI M a 0 (M.1 a1 0)).1 a1 1)).1 a1 2)) (a1 + 1) (a + 1) (0 : Int32).toNatClampNeg (0 : Int32).toNatClampNeg (7 : Int32).toNatClampNeg) (a1 + 2) (a + 2) (0 : Int32).toNatClampNeg (0 : Int32).toNatClampNeg (7 : Int32).toNatClampNeg) (a1 + 3) (a + 3) (0 : Int32).toNatClampNeg (0 : Int32).toNatClampNeg (64 : Int32).toNatClampNeg) (a1 + 4) (a + 4) (0 : Int32).toNatClampNeg (0 : Int32).toNatClampNeg (40 : Int32).toNatClampNeg)) : mm_CV mX9_copyFrom (d + 1) [.ref a, .ref a1] M K := by
  show mm_W mX9_copyFrom (d + 1) 0 0 0 [(0, .ref a), (1, .ref a1)] [] mm_SH M 0 0 (mm_PV K)
  refine mm_aload_n (pc := 0) (j := 0) dX9_copyFrom_0 rfl rfl ?_
  refine mm_aload_n (pc := 1) (j := 1) dX9_copyFrom_1 rfl rfl ?_
  refine mm_getI (pc := 2) (ci := 9) (N := 7) dX9_copyFrom_2 fX9_24 (sh_St ha1) rfl ?_
  refine mm_putI (pc := 5) (ci := 9) (N := 7) dX9_copyFrom_5 fX9_24 (sh_St ha) (by decide +kernel) rfl rfl rfl ?_
  refine mm_aload_n (pc := 8) (j := 0) dX9_copyFrom_8 rfl rfl ?_
  refine mm_aload_n (pc := 9) (j := 1) dX9_copyFrom_9 rfl rfl ?_
  refine mm_getI (pc := 10) (ci := 9) (N := 7) dX9_copyFrom_10 fX9_33 (sh_St ha1) rfl ?_
  refine mm_putI (pc := 13) (ci := 9) (N := 7) dX9_copyFrom_13 fX9_33 (sh_St ha) (by decide +kernel) rfl rfl rfl ?_
  refine mm_aload_n (pc := 16) (j := 0) dX9_copyFrom_16 rfl rfl ?_
  refine mm_aload_n (pc := 17) (j := 1) dX9_copyFrom_17 rfl rfl ?_
  refine mm_getI (pc := 18) (ci := 9) (N := 7) dX9_copyFrom_18 fX9_36 (sh_St ha1) rfl ?_
  refine mm_putI (pc := 21) (ci := 9) (N := 7) dX9_copyFrom_21 fX9_36 (sh_St ha) (by decide +kernel) rfl rfl rfl ?_
  refine mm_aload_n (pc := 24) (j := 1) dX9_copyFrom_24 rfl rfl ?_
  refine mm_getR (pc := 25) (ci := 9) (N := 7) (r := a1 + 1) dX9_copyFrom_25 fX9_9 (sh_St ha1) rfl (g_St_3 hG ha1) ?_
  refine mm_iconst (pc := 28) (x := 0) dX9_copyFrom_28 rfl ?_
  refine mm_aload_n (pc := 29) (j := 0) dX9_copyFrom_29 rfl rfl ?_
  refine mm_getR (pc := 30) (ci := 9) (N := 7) (r := a + 1) dX9_copyFrom_30 fX9_9 (sh_St ha) rfl (g_St_3 hG ha) ?_
  refine mm_iconst (pc := 33) (x := 0) dX9_copyFrom_33 rfl ?_
  refine mm_bipush (pc := 34) (x := 7) dX9_copyFrom_34 rfl ?_
  refine mm_copy (pc := 36) (n0 := 7) (n1 := 7) dX9_copyFrom_36 kX9_40 ac_nat ac_sta ac_ini (sh_St_1 ha1) (sh_St_1 ha) (by decide +kernel) (by decide +kernel) (by decide +kernel) (by decide +kernel) (by decide +kernel) (Nat.le_of_ble_eq_true rfl) ?_
  refine mm_aload_n (pc := 39) (j := 1) dX9_copyFrom_39 rfl rfl ?_
  refine mm_getR (pc := 40) (ci := 9) (N := 7) (r := a1 + 2) dX9_copyFrom_40 fX9_15 (sh_St ha1) rfl (g_St_4 hG ha1) ?_
  refine mm_iconst (pc := 43) (x := 0) dX9_copyFrom_43 rfl ?_
  refine mm_aload_n (pc := 44) (j := 0) dX9_copyFrom_44 rfl rfl ?_
  refine mm_getR (pc := 45) (ci := 9) (N := 7) (r := a + 2) dX9_copyFrom_45 fX9_15 (sh_St ha) rfl (g_St_4 hG ha) ?_
  refine mm_iconst (pc := 48) (x := 0) dX9_copyFrom_48 rfl ?_
  refine mm_bipush (pc := 49) (x := 7) dX9_copyFrom_49 rfl ?_
  refine mm_copy (pc := 51) (n0 := 7) (n1 := 7) dX9_copyFrom_51 kX9_40 ac_nat ac_sta ac_ini (sh_St_2 ha1) (sh_St_2 ha) (by decide +kernel) (by decide +kernel) (by decide +kernel) (by decide +kernel) (by decide +kernel) (Nat.le_of_ble_eq_true rfl) ?_
  refine mm_aload_n (pc := 54) (j := 1) dX9_copyFrom_54 rfl rfl ?_
  refine mm_getR (pc := 55) (ci := 9) (N := 7) (r := a1 + 3) dX9_copyFrom_55 fX9_18 (sh_St ha1) rfl (g_St_5 hG ha1) ?_
  refine mm_iconst (pc := 58) (x := 0) dX9_copyFrom_58 rfl ?_
  refine mm_aload_n (pc := 59) (j := 0) dX9_copyFrom_59 rfl rfl ?_
  refine mm_getR (pc := 60) (ci := 9) (N := 7) (r := a + 3) dX9_copyFrom_60 fX9_18 (sh_St ha) rfl (g_St_5 hG ha) ?_
  refine mm_iconst (pc := 63) (x := 0) dX9_copyFrom_63 rfl ?_
  refine mm_bipush (pc := 64) (x := 64) dX9_copyFrom_64 rfl ?_
  refine mm_copy (pc := 66) (n0 := 64) (n1 := 64) dX9_copyFrom_66 kX9_40 ac_nat ac_sta ac_ini (sh_St_3 ha1) (sh_St_3 ha) (by decide +kernel) (by decide +kernel) (by decide +kernel) (by decide +kernel) (by decide +kernel) (Nat.le_of_ble_eq_true rfl) ?_
  refine mm_aload_n (pc := 69) (j := 1) dX9_copyFrom_69 rfl rfl ?_
  refine mm_getR (pc := 70) (ci := 9) (N := 7) (r := a1 + 4) dX9_copyFrom_70 fX9_21 (sh_St ha1) rfl (g_St_6 hG ha1) ?_
  refine mm_iconst (pc := 73) (x := 0) dX9_copyFrom_73 rfl ?_
  refine mm_aload_n (pc := 74) (j := 0) dX9_copyFrom_74 rfl rfl ?_
  refine mm_getR (pc := 75) (ci := 9) (N := 7) (r := a + 4) dX9_copyFrom_75 fX9_21 (sh_St ha) rfl (g_St_6 hG ha) ?_
  refine mm_iconst (pc := 78) (x := 0) dX9_copyFrom_78 rfl ?_
  refine mm_bipush (pc := 79) (x := 40) dX9_copyFrom_79 rfl ?_
  refine mm_copy (pc := 81) (n0 := 40) (n1 := 40) dX9_copyFrom_81 kX9_40 ac_nat ac_sta ac_ini (sh_St_4 ha1) (sh_St_4 ha) (by decide +kernel) (by decide +kernel) (by decide +kernel) (by decide +kernel) (by decide +kernel) (Nat.le_of_ble_eq_true rfl) ?_
  exact mm_vret (pc := 84) dX9_copyFrom_84 rfl (Nat.le_refl 0) (Nat.le_refl 0) ⟨rfl, rfl, hG, h⟩
set_option maxRecDepth 100000 in
set_option maxHeartbeats 4000000 in
theorem rX9_isThere {d : Nat} {a : Nat} {x1 : Int32} {M : mm_M} {K : Int32 → mm_M → Prop} (ha : a ∈ mm_Sts) (hG : mm_G M.2.2) (h : if x1 < 0 then (K 0 M) else (if 7 ≤ x1 then (K 0 M) else (if (((M.1 a 1) >>> (x1 &&& 31)) &&& 1) = 0 then (K 0 M) else (K 1 M)))) : mm_CI mX9_isThere d [.ref a, .int x1] M K := by
  show mm_W mX9_isThere d 0 0 0 [(0, .ref a), (1, .int x1)] [] mm_SH M 0 0 (mm_PI K)
  refine mm_iload_n (pc := 0) (j := 1) dX9_isThere_0 rfl rfl ?_
  refine mm_if_lt (pc := 1) (tgt := 25) dX9_isThere_1 (by decide) (fun hc => ?_) (fun hc => ?_)
  · have h := mm_ift hc h
    refine mm_iconst (pc := 25) (x := 0) dX9_isThere_25 rfl ?_
    exact mm_zret (pc := 26) dX9_isThere_26 rfl rfl (Nat.le_refl 0) (Nat.le_refl 0) ⟨_, rfl, rfl, hG, h⟩
  · have h := mm_iff hc h
    refine mm_iload_n (pc := 4) (j := 1) dX9_isThere_4 rfl rfl ?_
    refine mm_bipush (pc := 5) (x := 7) dX9_isThere_5 rfl ?_
    refine mm_icmp_ge (pc := 7) (tgt := 25) dX9_isThere_7 (by decide) (fun hc => ?_) (fun hc => ?_)
    · have h := mm_ift hc h
      refine mm_iconst (pc := 25) (x := 0) dX9_isThere_25 rfl ?_
      exact mm_zret (pc := 26) dX9_isThere_26 rfl rfl (Nat.le_refl 0) (Nat.le_refl 0) ⟨_, rfl, rfl, hG, h⟩
    · have h := mm_iff hc h
      refine mm_aload_n (pc := 10) (j := 0) dX9_isThere_10 rfl rfl ?_
      refine mm_getI (pc := 11) (ci := 9) (N := 7) dX9_isThere_11 fX9_33 (sh_St ha) rfl ?_
      refine mm_iload_n (pc := 14) (j := 1) dX9_isThere_14 rfl rfl ?_
      refine mm_ishr (pc := 15) dX9_isThere_15 ?_
      refine mm_iconst (pc := 16) (x := 1) dX9_isThere_16 rfl ?_
      refine mm_iand (pc := 17) dX9_isThere_17 ?_
      refine mm_if_eq (pc := 18) (tgt := 25) dX9_isThere_18 (by decide) (fun hc => ?_) (fun hc => ?_)
      · have h := mm_ift hc h
        refine mm_iconst (pc := 25) (x := 0) dX9_isThere_25 rfl ?_
        exact mm_zret (pc := 26) dX9_isThere_26 rfl rfl (Nat.le_refl 0) (Nat.le_refl 0) ⟨_, rfl, rfl, hG, h⟩
      · have h := mm_iff hc h
        refine mm_iconst (pc := 21) (x := 1) dX9_isThere_21 rfl ?_
        refine mm_goto (pc := 22) (tgt := 26) dX9_isThere_22 (by decide) ?_
        exact mm_zret (pc := 26) dX9_isThere_26 rfl rfl (Nat.le_refl 0) (Nat.le_refl 0) ⟨_, rfl, rfl, hG, h⟩
set_option maxRecDepth 100000 in
set_option maxHeartbeats 4000000 in
theorem rX9_setHate {d : Nat} {a : Nat} {x1 : Int32} {x2 : Int32} {x3 : Int32} {M : mm_M} {K : mm_M → Prop} (ha : a ∈ mm_Sts) (hG : mm_G M.2.2) (h : if x1 < 0 then (K M) else (if 7 ≤ x1 then (K M) else (if x2 < 0 then (K M) else (if 7 ≤ x2 then (K M) else (vp_in ((8 * x1) + x2) 64 ∧ vp_in ((8 * x2) + x1) 64 ∧ K (mm_uI (mm_uI M (a + 3) ((8 * x1) + x2).toNatClampNeg x3) (a + 3) ((8 * x2) + x1).toNatClampNeg x3)))))) : mm_CV mX9_setHate d [.ref a, .int x1, .int x2, .int x3] M K := by
  show mm_W mX9_setHate d 0 0 0 [(0, .ref a), (1, .int x1), (2, .int x2), (3, .int x3)] [] mm_SH M 0 0 (mm_PV K)
  refine mm_iload_n (pc := 0) (j := 1) dX9_setHate_0 rfl rfl ?_
  refine mm_if_lt (pc := 1) (tgt := 44) dX9_setHate_1 (by decide) (fun hc => ?_) (fun hc => ?_)
  · have h := mm_ift hc h
    exact mm_vret (pc := 44) dX9_setHate_44 rfl (Nat.le_refl 0) (Nat.le_refl 0) ⟨rfl, rfl, hG, h⟩
  · have h := mm_iff hc h
    refine mm_iload_n (pc := 4) (j := 1) dX9_setHate_4 rfl rfl ?_
    refine mm_bipush (pc := 5) (x := 7) dX9_setHate_5 rfl ?_
    refine mm_icmp_ge (pc := 7) (tgt := 44) dX9_setHate_7 (by decide) (fun hc => ?_) (fun hc => ?_)
    · have h := mm_ift hc h
      exact mm_vret (pc := 44) dX9_setHate_44 rfl (Nat.le_refl 0) (Nat.le_refl 0) ⟨rfl, rfl, hG, h⟩
    · have h := mm_iff hc h
      refine mm_iload_n (pc := 10) (j := 2) dX9_setHate_10 rfl rfl ?_
      refine mm_if_lt (pc := 11) (tgt := 44) dX9_setHate_11 (by decide) (fun hc => ?_) (fun hc => ?_)
      · have h := mm_ift hc h
        exact mm_vret (pc := 44) dX9_setHate_44 rfl (Nat.le_refl 0) (Nat.le_refl 0) ⟨rfl, rfl, hG, h⟩
      · have h := mm_iff hc h
        refine mm_iload_n (pc := 14) (j := 2) dX9_setHate_14 rfl rfl ?_
        refine mm_bipush (pc := 15) (x := 7) dX9_setHate_15 rfl ?_
        refine mm_icmp_ge (pc := 17) (tgt := 44) dX9_setHate_17 (by decide) (fun hc => ?_) (fun hc => ?_)
        · have h := mm_ift hc h
          exact mm_vret (pc := 44) dX9_setHate_44 rfl (Nat.le_refl 0) (Nat.le_refl 0) ⟨rfl, rfl, hG, h⟩
        · have h := mm_iff hc h
          refine mm_aload_n (pc := 20) (j := 0) dX9_setHate_20 rfl rfl ?_
          refine mm_getR (pc := 21) (ci := 9) (N := 7) (r := a + 3) dX9_setHate_21 fX9_18 (sh_St ha) rfl (g_St_5 hG ha) ?_
          refine mm_bipush (pc := 24) (x := 8) dX9_setHate_24 rfl ?_
          refine mm_iload_n (pc := 26) (j := 1) dX9_setHate_26 rfl rfl ?_
          refine mm_imul (pc := 27) dX9_setHate_27 ?_
          refine mm_iload_n (pc := 28) (j := 2) dX9_setHate_28 rfl rfl ?_
          refine mm_iadd (pc := 29) dX9_setHate_29 ?_
          refine mm_iload_n (pc := 30) (j := 3) dX9_setHate_30 rfl rfl ?_
          obtain ⟨hi31, h⟩ := h
          refine mm_iastore (pc := 31) (N := 64) dX9_setHate_31 (sh_St_3 ha) hi31 ?_
          refine mm_aload_n (pc := 32) (j := 0) dX9_setHate_32 rfl rfl ?_
          refine mm_getR (pc := 33) (ci := 9) (N := 7) (r := a + 3) dX9_setHate_33 fX9_18 (sh_St ha) rfl (g_St_5 hG ha) ?_
          refine mm_bipush (pc := 36) (x := 8) dX9_setHate_36 rfl ?_
          refine mm_iload_n (pc := 38) (j := 2) dX9_setHate_38 rfl rfl ?_
          refine mm_imul (pc := 39) dX9_setHate_39 ?_
          refine mm_iload_n (pc := 40) (j := 1) dX9_setHate_40 rfl rfl ?_
          refine mm_iadd (pc := 41) dX9_setHate_41 ?_
          refine mm_iload_n (pc := 42) (j := 3) dX9_setHate_42 rfl rfl ?_
          obtain ⟨hi43, h⟩ := h
          refine mm_iastore (pc := 43) (N := 64) dX9_setHate_43 (sh_St_3 ha) hi43 ?_
          exact mm_vret (pc := 44) dX9_setHate_44 rfl (Nat.le_refl 0) (Nat.le_refl 0) ⟨rfl, rfl, hG, h⟩
def jX9_bury_16 (d : Nat) (a : Nat) (x1 : Int32) (M : mm_M) (K : mm_M → Prop) (y1 : Int32) (y2 : Int32) : Prop := mm_W mX9_bury (d + 1) 0 0 16 [(0, .ref a), (1, .int y1), (2, .int y2)] [] mm_SH M 0 0 (mm_PV K)
set_option maxRecDepth 100000 in
set_option maxHeartbeats 4000000 in
theorem rX9_bury {d : Nat} {a : Nat} {x1 : Int32} {M : mm_M} {K : mm_M → Prop} (ha : a ∈ mm_Sts) (hG : mm_G M.2.2) (h : jX9_bury_16 d a x1 (mm_uI M a 1 ((M.1 a 1) &&& (((1 : Int32) <<< (x1 &&& 31)) ^^^ (-1)))) K x1 0) : mm_CV mX9_bury (d + 1) [.ref a, .int x1] M K := by
  show mm_W mX9_bury (d + 1) 0 0 0 [(0, .ref a), (1, .int x1)] [] mm_SH M 0 0 (mm_PV K)
  refine mm_aload_n (pc := 0) (j := 0) dX9_bury_0 rfl rfl ?_
  refine mm_dup (pc := 1) dX9_bury_1 rfl ?_
  refine mm_getI (pc := 2) (ci := 9) (N := 7) dX9_bury_2 fX9_33 (sh_St ha) rfl ?_
  refine mm_iconst (pc := 5) (x := 1) dX9_bury_5 rfl ?_
  refine mm_iload_n (pc := 6) (j := 1) dX9_bury_6 rfl rfl ?_
  refine mm_ishl (pc := 7) dX9_bury_7 ?_
  refine mm_iconst (pc := 8) (x := (-1)) dX9_bury_8 rfl ?_
  refine mm_ixor (pc := 9) dX9_bury_9 ?_
  refine mm_iand (pc := 10) dX9_bury_10 ?_
  refine mm_putI (pc := 11) (ci := 9) (N := 7) dX9_bury_11 fX9_33 (sh_St ha) (by decide +kernel) rfl rfl rfl ?_
  refine mm_iconst (pc := 14) (x := 0) dX9_bury_14 rfl ?_
  refine mm_istore_n (pc := 15) (lv' := [(2, .int 0), (0, .ref a), (1, .int x1)]) dX9_bury_15 rfl (by decide) rfl ?_
  exact mm_sub [1, 2, 0] rfl h
set_option maxRecDepth 100000 in
set_option maxHeartbeats 4000000 in
theorem lX9_bury_16 {d : Nat} {a : Nat} {x1 : Int32} {M : mm_M} {K : mm_M → Prop} {y1 : Int32} {y2 : Int32} (ha : a ∈ mm_Sts) (hG : mm_G M.2.2) (h : if 7 ≤ y2 then (K M) else (mm_CV mX9_setHate d [.ref a, .int y1, .int y2, .int 0] M (fun m26 => jX9_bury_16 d a x1 m26 K y1 (y2 + 1)))) : jX9_bury_16 d a x1 M K y1 y2 := by
  unfold jX9_bury_16
  refine mm_iload_n (pc := 16) (j := 2) dX9_bury_16 rfl rfl ?_
  refine mm_bipush (pc := 17) (x := 7) dX9_bury_17 rfl ?_
  refine mm_icmp_ge (pc := 19) (tgt := 35) dX9_bury_19 (by decide) (fun hc => ?_) (fun hc => ?_)
  · have h := mm_ift hc h
    exact mm_vret (pc := 35) dX9_bury_35 rfl (Nat.le_refl 0) (Nat.le_refl 0) ⟨rfl, rfl, hG, h⟩
  · have h := mm_iff hc h
    refine mm_aload_n (pc := 22) (j := 0) dX9_bury_22 rfl rfl ?_
    refine mm_iload_n (pc := 23) (j := 1) dX9_bury_23 rfl rfl ?_
    refine mm_iload_n (pc := 24) (j := 2) dX9_bury_24 rfl rfl ?_
    refine mm_iconst (pc := 25) (x := 0) dX9_bury_25 rfl ?_
    refine mm_kVV (pc := 26) [.int y1, .int y2, .int 0] dX9_bury_26 kX9_53 rfl (sh_St ha) (Nat.le_of_ble_eq_true rfl) (Nat.le_of_ble_eq_true rfl) h (fun m26 hG h => ?_)
    refine mm_iinc (pc := 29) (j := 2) (v := y2 + 1) (lv' := [(2, .int (y2 + 1)), (0, .ref a), (1, .int y1)]) dX9_bury_29 rfl rfl (by decide) rfl ?_
    refine mm_goto (pc := 32) (tgt := 16) dX9_bury_32 (by decide) ?_
    exact mm_sub [1, 2, 0] rfl h
def jX9_countEnemies_4 (d : Nat) (a : Nat) (x1 : Int32) (M : mm_M) (K : Int32 → mm_M → Prop) (y1 : Int32) (y2 : Int32) (y3 : Int32) : Prop := mm_W mX9_countEnemies d 0 0 4 [(0, .ref a), (1, .int y1), (2, .int y2), (3, .int y3)] [] mm_SH M 0 0 (mm_PI K)
set_option maxRecDepth 100000 in
set_option maxHeartbeats 4000000 in
theorem rX9_countEnemies {d : Nat} {a : Nat} {x1 : Int32} {M : mm_M} {K : Int32 → mm_M → Prop} (ha : a ∈ mm_Sts) (hG : mm_G M.2.2) (h : jX9_countEnemies_4 d a x1 M K x1 0 0) : mm_CI mX9_countEnemies d [.ref a, .int x1] M K := by
  show mm_W mX9_countEnemies d 0 0 0 [(0, .ref a), (1, .int x1)] [] mm_SH M 0 0 (mm_PI K)
  refine mm_iconst (pc := 0) (x := 0) dX9_countEnemies_0 rfl ?_
  refine mm_istore_n (pc := 1) (lv' := [(2, .int 0), (0, .ref a), (1, .int x1)]) dX9_countEnemies_1 rfl (by decide) rfl ?_
  refine mm_iconst (pc := 2) (x := 0) dX9_countEnemies_2 rfl ?_
  refine mm_istore_n (pc := 3) (lv' := [(3, .int 0), (2, .int 0), (0, .ref a), (1, .int x1)]) dX9_countEnemies_3 rfl (by decide) rfl ?_
  exact mm_sub [2, 3, 1, 0] rfl h
set_option maxRecDepth 100000 in
set_option maxHeartbeats 4000000 in
theorem lX9_countEnemies_4 {d : Nat} {a : Nat} {x1 : Int32} {M : mm_M} {K : Int32 → mm_M → Prop} {y1 : Int32} {y2 : Int32} {y3 : Int32} (ha : a ∈ mm_Sts) (hG : mm_G M.2.2) (h : if 7 ≤ y3 then (K y2 M) else (if y1 < 0 then (K y2 M) else (if 7 ≤ y1 then (K y2 M) else (vp_in ((8 * y1) + y3) 64 ∧ if (M.1 (a + 3) ((8 * y1) + y3).toNatClampNeg) ≤ 0 then (jX9_countEnemies_4 d a x1 M K y1 y2 (y3 + 1)) else (jX9_countEnemies_4 d a x1 M K y1 (y2 + 1) (y3 + 1)))))) : jX9_countEnemies_4 d a x1 M K y1 y2 y3 := by
  unfold jX9_countEnemies_4
  refine mm_iload_n (pc := 4) (j := 3) dX9_countEnemies_4 rfl rfl ?_
  refine mm_bipush (pc := 5) (x := 7) dX9_countEnemies_5 rfl ?_
  refine mm_icmp_ge (pc := 7) (tgt := 43) dX9_countEnemies_7 (by decide) (fun hc => ?_) (fun hc => ?_)
  · have h := mm_ift hc h
    refine mm_iload_n (pc := 43) (j := 2) dX9_countEnemies_43 rfl rfl ?_
    exact mm_iret (pc := 44) dX9_countEnemies_44 rfl (Nat.le_refl 0) (Nat.le_refl 0) ⟨_, rfl, rfl, hG, h⟩
  · have h := mm_iff hc h
    refine mm_iload_n (pc := 10) (j := 1) dX9_countEnemies_10 rfl rfl ?_
    refine mm_if_lt (pc := 11) (tgt := 43) dX9_countEnemies_11 (by decide) (fun hc => ?_) (fun hc => ?_)
    · have h := mm_ift hc h
      refine mm_iload_n (pc := 43) (j := 2) dX9_countEnemies_43 rfl rfl ?_
      exact mm_iret (pc := 44) dX9_countEnemies_44 rfl (Nat.le_refl 0) (Nat.le_refl 0) ⟨_, rfl, rfl, hG, h⟩
    · have h := mm_iff hc h
      refine mm_iload_n (pc := 14) (j := 1) dX9_countEnemies_14 rfl rfl ?_
      refine mm_bipush (pc := 15) (x := 7) dX9_countEnemies_15 rfl ?_
      refine mm_icmp_ge (pc := 17) (tgt := 43) dX9_countEnemies_17 (by decide) (fun hc => ?_) (fun hc => ?_)
      · have h := mm_ift hc h
        refine mm_iload_n (pc := 43) (j := 2) dX9_countEnemies_43 rfl rfl ?_
        exact mm_iret (pc := 44) dX9_countEnemies_44 rfl (Nat.le_refl 0) (Nat.le_refl 0) ⟨_, rfl, rfl, hG, h⟩
      · have h := mm_iff hc h
        refine mm_aload_n (pc := 20) (j := 0) dX9_countEnemies_20 rfl rfl ?_
        refine mm_getR (pc := 21) (ci := 9) (N := 7) (r := a + 3) dX9_countEnemies_21 fX9_18 (sh_St ha) rfl (g_St_5 hG ha) ?_
        refine mm_bipush (pc := 24) (x := 8) dX9_countEnemies_24 rfl ?_
        refine mm_iload_n (pc := 26) (j := 1) dX9_countEnemies_26 rfl rfl ?_
        refine mm_imul (pc := 27) dX9_countEnemies_27 ?_
        refine mm_iload_n (pc := 28) (j := 3) dX9_countEnemies_28 rfl rfl ?_
        refine mm_iadd (pc := 29) dX9_countEnemies_29 ?_
        obtain ⟨hi30, h⟩ := h
        refine mm_iaload (pc := 30) (N := 64) dX9_countEnemies_30 (sh_St_3 ha) hi30 ?_
        refine mm_if_le (pc := 31) (tgt := 37) dX9_countEnemies_31 (by decide) (fun hc => ?_) (fun hc => ?_)
        · have h := mm_ift hc h
          refine mm_iinc (pc := 37) (j := 3) (v := y3 + 1) (lv' := [(3, .int (y3 + 1)), (0, .ref a), (1, .int y1), (2, .int y2)]) dX9_countEnemies_37 rfl rfl (by decide) rfl ?_
          refine mm_goto (pc := 40) (tgt := 4) dX9_countEnemies_40 (by decide) ?_
          exact mm_sub [1, 2, 3, 0] rfl h
        · have h := mm_iff hc h
          refine mm_iinc (pc := 34) (j := 2) (v := y2 + 1) (lv' := [(2, .int (y2 + 1)), (0, .ref a), (1, .int y1), (3, .int y3)]) dX9_countEnemies_34 rfl rfl (by decide) rfl ?_
          refine mm_iinc (pc := 37) (j := 3) (v := y3 + 1) (lv' := [(3, .int (y3 + 1)), (2, .int (y2 + 1)), (0, .ref a), (1, .int y1)]) dX9_countEnemies_37 rfl rfl (by decide) rfl ?_
          refine mm_goto (pc := 40) (tgt := 4) dX9_countEnemies_40 (by decide) ?_
          exact mm_sub [2, 3, 1, 0] rfl h
def jX9_countFeuds_4 (d : Nat) (a : Nat) (M : mm_M) (K : Int32 → mm_M → Prop) (y1 : Int32) (y2 : Int32) : Prop := mm_W mX9_countFeuds (d + 1) 0 0 4 [(0, .ref a), (1, .int y1), (2, .int y2)] [] mm_SH M 0 0 (mm_PI K)
set_option maxRecDepth 100000 in
set_option maxHeartbeats 4000000 in
theorem rX9_countFeuds {d : Nat} {a : Nat} {M : mm_M} {K : Int32 → mm_M → Prop} (ha : a ∈ mm_Sts) (hG : mm_G M.2.2) (h : jX9_countFeuds_4 d a M K 0 0) : mm_CI mX9_countFeuds (d + 1) [.ref a] M K := by
  show mm_W mX9_countFeuds (d + 1) 0 0 0 [(0, .ref a)] [] mm_SH M 0 0 (mm_PI K)
  refine mm_iconst (pc := 0) (x := 0) dX9_countFeuds_0 rfl ?_
  refine mm_istore_n (pc := 1) (lv' := [(1, .int 0), (0, .ref a)]) dX9_countFeuds_1 rfl (by decide) rfl ?_
  refine mm_iconst (pc := 2) (x := 0) dX9_countFeuds_2 rfl ?_
  refine mm_istore_n (pc := 3) (lv' := [(2, .int 0), (1, .int 0), (0, .ref a)]) dX9_countFeuds_3 rfl (by decide) rfl ?_
  exact mm_sub [2, 1, 0] rfl h
set_option maxRecDepth 100000 in
set_option maxHeartbeats 4000000 in
theorem lX9_countFeuds_4 {d : Nat} {a : Nat} {M : mm_M} {K : Int32 → mm_M → Prop} {y1 : Int32} {y2 : Int32} (ha : a ∈ mm_Sts) (hG : mm_G M.2.2) (h : if 7 ≤ y2 then (K (y1 / 2) M) else (mm_CI mX9_countEnemies d [.ref a, .int y2] M (fun z13 m13 => jX9_countFeuds_4 d a m13 K (y1 + z13) (y2 + 1)))) : jX9_countFeuds_4 d a M K y1 y2 := by
  unfold jX9_countFeuds_4
  refine mm_iload_n (pc := 4) (j := 2) dX9_countFeuds_4 rfl rfl ?_
  refine mm_bipush (pc := 5) (x := 7) dX9_countFeuds_5 rfl ?_
  refine mm_icmp_ge (pc := 7) (tgt := 24) dX9_countFeuds_7 (by decide) (fun hc => ?_) (fun hc => ?_)
  · have h := mm_ift hc h
    refine mm_iload_n (pc := 24) (j := 1) dX9_countFeuds_24 rfl rfl ?_
    refine mm_iconst (pc := 25) (x := 2) dX9_countFeuds_25 rfl ?_
    refine mm_idiv (pc := 26) dX9_countFeuds_26 (by decide) ?_
    exact mm_iret (pc := 27) dX9_countFeuds_27 rfl (Nat.le_refl 0) (Nat.le_refl 0) ⟨_, rfl, rfl, hG, h⟩
  · have h := mm_iff hc h
    refine mm_iload_n (pc := 10) (j := 1) dX9_countFeuds_10 rfl rfl ?_
    refine mm_aload_n (pc := 11) (j := 0) dX9_countFeuds_11 rfl rfl ?_
    refine mm_iload_n (pc := 12) (j := 2) dX9_countFeuds_12 rfl rfl ?_
    refine mm_kVI (pc := 13) [.int y2] dX9_countFeuds_13 kX9_57 rfl (sh_St ha) (Nat.le_of_ble_eq_true rfl) (Nat.le_of_ble_eq_true rfl) h (fun z13 m13 hG h => ?_)
    refine mm_iadd (pc := 16) dX9_countFeuds_16 ?_
    refine mm_istore_n (pc := 17) (lv' := [(1, .int (y1 + z13)), (0, .ref a), (2, .int y2)]) dX9_countFeuds_17 rfl (by decide) rfl ?_
    refine mm_iinc (pc := 18) (j := 2) (v := y2 + 1) (lv' := [(2, .int (y2 + 1)), (1, .int (y1 + z13)), (0, .ref a)]) dX9_countFeuds_18 rfl rfl (by decide) rfl ?_
    refine mm_goto (pc := 21) (tgt := 4) dX9_countFeuds_21 (by decide) ?_
    exact mm_sub [2, 1, 0] rfl h
def jX9_flourTogether_4 (d : Nat) (a : Nat) (M : mm_M) (K : Int32 → mm_M → Prop) (y1 : Int32) (y2 : Int32) : Prop := mm_W mX9_flourTogether (d + 1) 0 0 4 [(0, .ref a), (1, .int y1), (2, .int y2)] [] mm_SH M 0 0 (mm_PI K)
set_option maxRecDepth 100000 in
set_option maxHeartbeats 4000000 in
theorem rX9_flourTogether {d : Nat} {a : Nat} {M : mm_M} {K : Int32 → mm_M → Prop} (ha : a ∈ mm_Sts) (hG : mm_G M.2.2) (h : jX9_flourTogether_4 d a M K 0 0) : mm_CI mX9_flourTogether (d + 1) [.ref a] M K := by
  show mm_W mX9_flourTogether (d + 1) 0 0 0 [(0, .ref a)] [] mm_SH M 0 0 (mm_PI K)
  refine mm_iconst (pc := 0) (x := 0) dX9_flourTogether_0 rfl ?_
  refine mm_istore_n (pc := 1) (lv' := [(1, .int 0), (0, .ref a)]) dX9_flourTogether_1 rfl (by decide) rfl ?_
  refine mm_iconst (pc := 2) (x := 0) dX9_flourTogether_2 rfl ?_
  refine mm_istore_n (pc := 3) (lv' := [(2, .int 0), (1, .int 0), (0, .ref a)]) dX9_flourTogether_3 rfl (by decide) rfl ?_
  exact mm_sub [2, 1, 0] rfl h
set_option maxRecDepth 100000 in
set_option maxHeartbeats 4000000 in
theorem lX9_flourTogether_4 {d : Nat} {a : Nat} {M : mm_M} {K : Int32 → mm_M → Prop} {y1 : Int32} {y2 : Int32} (ha : a ∈ mm_Sts) (hG : mm_G M.2.2) (h : if 7 ≤ y2 then (K y1 M) else (mm_CI mX9_isThere d [.ref a, .int y2] M (fun z12 m12 => if z12 = 0 then (jX9_flourTogether_4 d a m12 K y1 (y2 + 1)) else (vp_in y2 7 ∧ jX9_flourTogether_4 d a m12 K (y1 + (m12.1 (a + 1) y2.toNatClampNeg)) (y2 + 1))))) : jX9_flourTogether_4 d a M K y1 y2 := by
  unfold jX9_flourTogether_4
  refine mm_iload_n (pc := 4) (j := 2) dX9_flourTogether_4 rfl rfl ?_
  refine mm_bipush (pc := 5) (x := 7) dX9_flourTogether_5 rfl ?_
  refine mm_icmp_ge (pc := 7) (tgt := 33) dX9_flourTogether_7 (by decide) (fun hc => ?_) (fun hc => ?_)
  · have h := mm_ift hc h
    refine mm_iload_n (pc := 33) (j := 1) dX9_flourTogether_33 rfl rfl ?_
    exact mm_iret (pc := 34) dX9_flourTogether_34 rfl (Nat.le_refl 0) (Nat.le_refl 0) ⟨_, rfl, rfl, hG, h⟩
  · have h := mm_iff hc h
    refine mm_aload_n (pc := 10) (j := 0) dX9_flourTogether_10 rfl rfl ?_
    refine mm_iload_n (pc := 11) (j := 2) dX9_flourTogether_11 rfl rfl ?_
    refine mm_kVI (pc := 12) [.int y2] dX9_flourTogether_12 kX9_61 rfl (sh_St ha) (Nat.le_of_ble_eq_true rfl) (Nat.le_of_ble_eq_true rfl) h (fun z12 m12 hG h => ?_)
    refine mm_if_eq (pc := 15) (tgt := 27) dX9_flourTogether_15 (by decide) (fun hc => ?_) (fun hc => ?_)
    · have h := mm_ift hc h
      refine mm_iinc (pc := 27) (j := 2) (v := y2 + 1) (lv' := [(2, .int (y2 + 1)), (0, .ref a), (1, .int y1)]) dX9_flourTogether_27 rfl rfl (by decide) rfl ?_
      refine mm_goto (pc := 30) (tgt := 4) dX9_flourTogether_30 (by decide) ?_
      exact mm_sub [1, 2, 0] rfl h
    · have h := mm_iff hc h
      refine mm_iload_n (pc := 18) (j := 1) dX9_flourTogether_18 rfl rfl ?_
      refine mm_aload_n (pc := 19) (j := 0) dX9_flourTogether_19 rfl rfl ?_
      refine mm_getR (pc := 20) (ci := 9) (N := 7) (r := a + 1) dX9_flourTogether_20 fX9_9 (sh_St ha) rfl (g_St_3 hG ha) ?_
      refine mm_iload_n (pc := 23) (j := 2) dX9_flourTogether_23 rfl rfl ?_
      obtain ⟨hi24, h⟩ := h
      refine mm_iaload (pc := 24) (N := 7) dX9_flourTogether_24 (sh_St_1 ha) hi24 ?_
      refine mm_iadd (pc := 25) dX9_flourTogether_25 ?_
      refine mm_istore_n (pc := 26) (lv' := [(1, .int (y1 + (m12.1 (a + 1) y2.toNatClampNeg))), (0, .ref a), (2, .int y2)]) dX9_flourTogether_26 rfl (by decide) rfl ?_
      refine mm_iinc (pc := 27) (j := 2) (v := y2 + 1) (lv' := [(2, .int (y2 + 1)), (1, .int (y1 + (m12.1 (a + 1) y2.toNatClampNeg))), (0, .ref a)]) dX9_flourTogether_27 rfl rfl (by decide) rfl ?_
      refine mm_goto (pc := 30) (tgt := 4) dX9_flourTogether_30 (by decide) ?_
      exact mm_sub [2, 1, 0] rfl h
set_option maxRecDepth 100000 in
set_option maxHeartbeats 4000000 in
theorem rX9_keep {d : Nat} {a : Nat} {x1 : Int32} {x2 : Int32} {x3 : Int32} {M : mm_M} {K : mm_M → Prop} (ha : a ∈ mm_Sts) (hG : mm_G M.2.2) (h : if ((M.1 a 2) - (M.1 a 2) / 40 * 40) < 0 then (K M) else (vp_in ((M.1 a 2) - (M.1 a 2) / 40 * 40) 40 ∧ K (mm_uI (mm_uI M (a + 4) ((M.1 a 2) - (M.1 a 2) / 40 * 40).toNatClampNeg (((((((M.1 a 0) * 8) + x1) * 8) + x2) * 128) + x3)) a 2 (((mm_uI M (a + 4) ((M.1 a 2) - (M.1 a 2) / 40 * 40).toNatClampNeg (((((((M.1 a 0) * 8) + x1) * 8) + x2) * 128) + x3)).1 a 2) + 1)))) : mm_CV mX9_keep d [.ref a, .int x1, .int x2, .int x3] M K := by
  show mm_W mX9_keep d 0 0 0 [(0, .ref a), (1, .int x1), (2, .int x2), (3, .int x3)] [] mm_SH M 0 0 (mm_PV K)
  refine mm_aload_n (pc := 0) (j := 0) dX9_keep_0 rfl rfl ?_
  refine mm_getI (pc := 1) (ci := 9) (N := 7) dX9_keep_1 fX9_36 (sh_St ha) rfl ?_
  refine mm_bipush (pc := 4) (x := 40) dX9_keep_4 rfl ?_
  refine mm_irem (pc := 6) dX9_keep_6 (by decide) ?_
  refine mm_istore (pc := 7) (lv' := [(4, .int ((M.1 a 2) - (M.1 a 2) / 40 * 40)), (0, .ref a), (1, .int x1), (2, .int x2), (3, .int x3)]) dX9_keep_7 (by decide) rfl ?_
  refine mm_iload (pc := 9) (j := 0) dX9_keep_9 rfl ?_
  refine mm_if_lt (pc := 11) (tgt := 51) dX9_keep_11 (by decide) (fun hc => ?_) (fun hc => ?_)
  · have h := mm_ift hc h
    exact mm_vret (pc := 51) dX9_keep_51 rfl (Nat.le_refl 0) (Nat.le_refl 0) ⟨rfl, rfl, hG, h⟩
  · have h := mm_iff hc h
    refine mm_aload_n (pc := 14) (j := 1) dX9_keep_14 rfl rfl ?_
    refine mm_getR (pc := 15) (ci := 9) (N := 7) (r := a + 4) dX9_keep_15 fX9_21 (sh_St ha) rfl (g_St_6 hG ha) ?_
    refine mm_iload (pc := 18) (j := 0) dX9_keep_18 rfl ?_
    refine mm_aload_n (pc := 20) (j := 1) dX9_keep_20 rfl rfl ?_
    refine mm_getI (pc := 21) (ci := 9) (N := 7) dX9_keep_21 fX9_24 (sh_St ha) rfl ?_
    refine mm_bipush (pc := 24) (x := 8) dX9_keep_24 rfl ?_
    refine mm_imul (pc := 26) dX9_keep_26 ?_
    refine mm_iload_n (pc := 27) (j := 2) dX9_keep_27 rfl rfl ?_
    refine mm_iadd (pc := 28) dX9_keep_28 ?_
    refine mm_bipush (pc := 29) (x := 8) dX9_keep_29 rfl ?_
    refine mm_imul (pc := 31) dX9_keep_31 ?_
    refine mm_iload_n (pc := 32) (j := 3) dX9_keep_32 rfl rfl ?_
    refine mm_iadd (pc := 33) dX9_keep_33 ?_
    refine mm_sipush (pc := 34) (x := 128) dX9_keep_34 rfl ?_
    refine mm_imul (pc := 37) dX9_keep_37 ?_
    refine mm_iload_n (pc := 38) (j := 4) dX9_keep_38 rfl rfl ?_
    refine mm_iadd (pc := 39) dX9_keep_39 ?_
    obtain ⟨hi40, h⟩ := h
    refine mm_iastore (pc := 40) (N := 40) dX9_keep_40 (sh_St_4 ha) hi40 ?_
    refine mm_aload_n (pc := 41) (j := 1) dX9_keep_41 rfl rfl ?_
    refine mm_dup (pc := 42) dX9_keep_42 rfl ?_
    refine mm_getI (pc := 43) (ci := 9) (N := 7) dX9_keep_43 fX9_36 (sh_St ha) rfl ?_
    refine mm_iconst (pc := 46) (x := 1) dX9_keep_46 rfl ?_
    refine mm_iadd (pc := 47) dX9_keep_47 ?_
    refine mm_putI (pc := 48) (ci := 9) (N := 7) dX9_keep_48 fX9_36 (sh_St ha) (by decide +kernel) rfl rfl rfl ?_
    exact mm_vret (pc := 51) dX9_keep_51 rfl (Nat.le_refl 0) (Nat.le_refl 0) ⟨rfl, rfl, hG, h⟩
set_option maxRecDepth 100000 in
set_option maxHeartbeats 4000000 in
theorem rX9_toldLoaves {d : Nat} {a : Nat} {M : mm_M} {K : Int32 → mm_M → Prop} (ha : a ∈ mm_Sts) (hG : mm_G M.2.2) (h : K (if 40 < (M.1 a 2) then 40 else (M.1 a 2)) M) : mm_CI mX9_toldLoaves (d + 1) [.ref a] M K := by
  show mm_W mX9_toldLoaves (d + 1) 0 0 0 [(0, .ref a)] [] mm_SH M 0 0 (mm_PI K)
  refine mm_aload_n (pc := 0) (j := 0) dX9_toldLoaves_0 rfl rfl ?_
  refine mm_getI (pc := 1) (ci := 9) (N := 7) dX9_toldLoaves_1 fX9_36 (sh_St ha) rfl ?_
  refine mm_bipush (pc := 4) (x := 40) dX9_toldLoaves_4 rfl ?_
  refine mm_mmin (pc := 6) dX9_toldLoaves_6 kX9_65 ma_min_s ma_ini ma_min_c (Nat.le_of_ble_eq_true rfl) (Nat.le_refl 0) (Nat.le_refl 0) ?_
  exact mm_iret (pc := 9) dX9_toldLoaves_9 rfl (Nat.le_refl 0) (Nat.le_refl 0) ⟨_, rfl, rfl, hG, h⟩
def jX9_toldOfLoaf_43 (d : Nat) (a : Nat) (x1 : Int32) (x2 : Int32) (M : mm_M) (K : Int32 → mm_M → Prop) (y2 : Int32) (u0 : Int32) : Prop := mm_W mX9_toldOfLoaf (d + 1) 0 0 43 [(2, .int y2)] [.int u0] mm_SH M 0 0 (mm_PI K)
set_option maxRecDepth 100000 in
set_option maxHeartbeats 4000000 in
theorem rX9_toldOfLoaf {d : Nat} {a : Nat} {x1 : Int32} {x2 : Int32} {M : mm_M} {K : Int32 → mm_M → Prop} (ha : a ∈ mm_Sts) (hG : mm_G M.2.2) (h : if x1 < 0 then (K (-1) M) else (mm_CI mX9_toldLoaves d [.ref a] M (fun z6 m6 => if x1 < z6 then (mm_CI mX9_toldLoaves d [.ref a] m6 (fun z19 m19 => if ((((m6.1 a 2) - z19) + x1) - (((m6.1 a 2) - z19) + x1) / 40 * 40) < 0 then (jX9_toldOfLoaf_43 d a x1 x2 m19 K x2 0) else (vp_in ((((m6.1 a 2) - z19) + x1) - (((m6.1 a 2) - z19) + x1) / 40 * 40) 40 ∧ jX9_toldOfLoaf_43 d a x1 x2 m19 K x2 (m19.1 (a + 4) ((((m6.1 a 2) - z19) + x1) - (((m6.1 a 2) - z19) + x1) / 40 * 40).toNatClampNeg)))) else (K (-1) m6)))) : mm_CI mX9_toldOfLoaf (d + 1) [.ref a, .int x1, .int x2] M K := by
  show mm_W mX9_toldOfLoaf (d + 1) 0 0 0 [(0, .ref a), (1, .int x1), (2, .int x2)] [] mm_SH M 0 0 (mm_PI K)
  refine mm_iload_n (pc := 0) (j := 1) dX9_toldOfLoaf_0 rfl rfl ?_
  refine mm_if_lt (pc := 1) (tgt := 12) dX9_toldOfLoaf_1 (by decide) (fun hc => ?_) (fun hc => ?_)
  · have h := mm_ift hc h
    refine mm_iconst (pc := 12) (x := (-1)) dX9_toldOfLoaf_12 rfl ?_
    exact mm_iret (pc := 13) dX9_toldOfLoaf_13 rfl (Nat.le_refl 0) (Nat.le_refl 0) ⟨_, rfl, rfl, hG, h⟩
  · have h := mm_iff hc h
    refine mm_iload_n (pc := 4) (j := 1) dX9_toldOfLoaf_4 rfl rfl ?_
    refine mm_aload_n (pc := 5) (j := 0) dX9_toldOfLoaf_5 rfl rfl ?_
    refine mm_kVI (pc := 6) [] dX9_toldOfLoaf_6 kX9_71 rfl (sh_St ha) (Nat.le_of_ble_eq_true rfl) (Nat.le_of_ble_eq_true rfl) h (fun z6 m6 hG h => ?_)
    refine mm_icmp_lt (pc := 9) (tgt := 14) dX9_toldOfLoaf_9 (by decide) (fun hc => ?_) (fun hc => ?_)
    · have h := mm_ift hc h
      refine mm_aload_n (pc := 14) (j := 0) dX9_toldOfLoaf_14 rfl rfl ?_
      refine mm_getI (pc := 15) (ci := 9) (N := 7) dX9_toldOfLoaf_15 fX9_36 (sh_St ha) rfl ?_
      refine mm_aload_n (pc := 18) (j := 0) dX9_toldOfLoaf_18 rfl rfl ?_
      refine mm_kVI (pc := 19) [] dX9_toldOfLoaf_19 kX9_71 rfl (sh_St ha) (Nat.le_of_ble_eq_true rfl) (Nat.le_of_ble_eq_true rfl) h (fun z19 m19 hG h => ?_)
      refine mm_isub (pc := 22) dX9_toldOfLoaf_22 ?_
      refine mm_iload_n (pc := 23) (j := 1) dX9_toldOfLoaf_23 rfl rfl ?_
      refine mm_iadd (pc := 24) dX9_toldOfLoaf_24 ?_
      refine mm_bipush (pc := 25) (x := 40) dX9_toldOfLoaf_25 rfl ?_
      refine mm_irem (pc := 27) dX9_toldOfLoaf_27 (by decide) ?_
      refine mm_istore_n (pc := 28) (lv' := [(3, .int ((((m6.1 a 2) - z19) + x1) - (((m6.1 a 2) - z19) + x1) / 40 * 40)), (0, .ref a), (1, .int x1), (2, .int x2)]) dX9_toldOfLoaf_28 rfl (by decide) rfl ?_
      refine mm_iload_n (pc := 29) (j := 0) dX9_toldOfLoaf_29 rfl rfl ?_
      refine mm_if_lt (pc := 30) (tgt := 42) dX9_toldOfLoaf_30 (by decide) (fun hc => ?_) (fun hc => ?_)
      · have h := mm_ift hc h
        refine mm_iconst (pc := 42) (x := 0) dX9_toldOfLoaf_42 rfl ?_
        exact mm_sub [3] rfl h
      · have h := mm_iff hc h
        refine mm_aload_n (pc := 33) (j := 1) dX9_toldOfLoaf_33 rfl rfl ?_
        refine mm_getR (pc := 34) (ci := 9) (N := 7) (r := a + 4) dX9_toldOfLoaf_34 fX9_21 (sh_St ha) rfl (g_St_6 hG ha) ?_
        refine mm_iload_n (pc := 37) (j := 0) dX9_toldOfLoaf_37 rfl rfl ?_
        obtain ⟨hi38, h⟩ := h
        refine mm_iaload (pc := 38) (N := 40) dX9_toldOfLoaf_38 (sh_St_4 ha) hi38 ?_
        refine mm_goto (pc := 39) (tgt := 43) dX9_toldOfLoaf_39 (by decide) ?_
        exact mm_sub [3] rfl h
    · have h := mm_iff hc h
      refine mm_iconst (pc := 12) (x := (-1)) dX9_toldOfLoaf_12 rfl ?_
      exact mm_iret (pc := 13) dX9_toldOfLoaf_13 rfl (Nat.le_refl 0) (Nat.le_refl 0) ⟨_, rfl, rfl, hG, h⟩
set_option maxRecDepth 100000 in
set_option maxHeartbeats 4000000 in
theorem lX9_toldOfLoaf_43 {d : Nat} {a : Nat} {x1 : Int32} {x2 : Int32} {M : mm_M} {K : Int32 → mm_M → Prop} {y2 : Int32} {u0 : Int32} (ha : a ∈ mm_Sts) (hG : mm_G M.2.2) (h : if y2 = 0 then (K (u0 / 8192) M) else (if y2 = 1 then (K ((u0 / 1024) - (u0 / 1024) / 8 * 8) M) else (if y2 = 2 then (K ((u0 / 128) - (u0 / 128) / 8 * 8) M) else (if y2 = 3 then (K (u0 - u0 / 128 * 128) M) else (K (-1) M))))) : jX9_toldOfLoaf_43 d a x1 x2 M K y2 u0 := by
  unfold jX9_toldOfLoaf_43
  refine mm_istore (pc := 43) (lv' := [(4, .int u0), (2, .int y2)]) dX9_toldOfLoaf_43 (by decide) rfl ?_
  refine mm_iload_n (pc := 45) (j := 1) dX9_toldOfLoaf_45 rfl rfl ?_
  by_cases hs46_0 : y2 = 0
  · have h := mm_ift hs46_0 h
    refine mm_tableIn (pc := 46) (off := 30) (tgt := 76) dX9_toldOfLoaf_46 (by rw [hs46_0]; decide) (by rw [hs46_0]; decide) (by rw [hs46_0]; rfl) (by decide) ?_
    refine mm_iload (pc := 76) (j := 0) dX9_toldOfLoaf_76 rfl ?_
    refine mm_sipush (pc := 78) (x := 8192) dX9_toldOfLoaf_78 rfl ?_
    refine mm_idiv (pc := 81) dX9_toldOfLoaf_81 (by decide) ?_
    exact mm_iret (pc := 82) dX9_toldOfLoaf_82 rfl (Nat.le_refl 0) (Nat.le_refl 0) ⟨_, rfl, rfl, hG, h⟩
  · have h := mm_iff hs46_0 h
    by_cases hs46_1 : y2 = 1
    · have h := mm_ift hs46_1 h
      refine mm_tableIn (pc := 46) (off := 37) (tgt := 83) dX9_toldOfLoaf_46 (by rw [hs46_1]; decide) (by rw [hs46_1]; decide) (by rw [hs46_1]; rfl) (by decide) ?_
      refine mm_iload (pc := 83) (j := 0) dX9_toldOfLoaf_83 rfl ?_
      refine mm_sipush (pc := 85) (x := 1024) dX9_toldOfLoaf_85 rfl ?_
      refine mm_idiv (pc := 88) dX9_toldOfLoaf_88 (by decide) ?_
      refine mm_bipush (pc := 89) (x := 8) dX9_toldOfLoaf_89 rfl ?_
      refine mm_irem (pc := 91) dX9_toldOfLoaf_91 (by decide) ?_
      exact mm_iret (pc := 92) dX9_toldOfLoaf_92 rfl (Nat.le_refl 0) (Nat.le_refl 0) ⟨_, rfl, rfl, hG, h⟩
    · have h := mm_iff hs46_1 h
      by_cases hs46_2 : y2 = 2
      · have h := mm_ift hs46_2 h
        refine mm_tableIn (pc := 46) (off := 47) (tgt := 93) dX9_toldOfLoaf_46 (by rw [hs46_2]; decide) (by rw [hs46_2]; decide) (by rw [hs46_2]; rfl) (by decide) ?_
        refine mm_iload (pc := 93) (j := 0) dX9_toldOfLoaf_93 rfl ?_
        refine mm_sipush (pc := 95) (x := 128) dX9_toldOfLoaf_95 rfl ?_
        refine mm_idiv (pc := 98) dX9_toldOfLoaf_98 (by decide) ?_
        refine mm_bipush (pc := 99) (x := 8) dX9_toldOfLoaf_99 rfl ?_
        refine mm_irem (pc := 101) dX9_toldOfLoaf_101 (by decide) ?_
        exact mm_iret (pc := 102) dX9_toldOfLoaf_102 rfl (Nat.le_refl 0) (Nat.le_refl 0) ⟨_, rfl, rfl, hG, h⟩
      · have h := mm_iff hs46_2 h
        by_cases hs46_3 : y2 = 3
        · have h := mm_ift hs46_3 h
          refine mm_tableIn (pc := 46) (off := 57) (tgt := 103) dX9_toldOfLoaf_46 (by rw [hs46_3]; decide) (by rw [hs46_3]; decide) (by rw [hs46_3]; rfl) (by decide) ?_
          refine mm_iload (pc := 103) (j := 0) dX9_toldOfLoaf_103 rfl ?_
          refine mm_sipush (pc := 105) (x := 128) dX9_toldOfLoaf_105 rfl ?_
          refine mm_irem (pc := 108) dX9_toldOfLoaf_108 (by decide) ?_
          exact mm_iret (pc := 109) dX9_toldOfLoaf_109 rfl (Nat.le_refl 0) (Nat.le_refl 0) ⟨_, rfl, rfl, hG, h⟩
        · have h := mm_iff hs46_3 h
          have ht46_0 := lv_neT hs46_0 (show (0 : Int32).toInt = 0 from rfl)
          have ht46_1 := lv_neT hs46_1 (show (1 : Int32).toInt = 1 from rfl)
          have ht46_2 := lv_neT hs46_2 (show (2 : Int32).toInt = 2 from rfl)
          have ht46_3 := lv_neT hs46_3 (show (3 : Int32).toInt = 3 from rfl)
          refine mm_tableOut (pc := 46) (tgt := 110) dX9_toldOfLoaf_46 (by omega) (by decide) ?_
          refine mm_iconst (pc := 110) (x := (-1)) dX9_toldOfLoaf_110 rfl ?_
          exact mm_iret (pc := 111) dX9_toldOfLoaf_111 rfl (Nat.le_refl 0) (Nat.le_refl 0) ⟨_, rfl, rfl, hG, h⟩
set_option maxRecDepth 100000 in
set_option maxHeartbeats 4000000 in
theorem rX9_imageLength {d : Nat} {x0 : Int32} {M : mm_M} {K : Int32 → mm_M → Prop} (hG : mm_G M.2.2) (h : K (((2 + (3 * x0)) + ((x0 * (x0 - 1)) / 2)) + 1) M) : mm_CI mX9_imageLength d [.int x0] M K := by
  show mm_W mX9_imageLength d 0 0 0 [(0, .int x0)] [] mm_SH M 0 0 (mm_PI K)
  refine mm_iconst (pc := 0) (x := 2) dX9_imageLength_0 rfl ?_
  refine mm_iconst (pc := 1) (x := 3) dX9_imageLength_1 rfl ?_
  refine mm_iload_n (pc := 2) (j := 0) dX9_imageLength_2 rfl rfl ?_
  refine mm_imul (pc := 3) dX9_imageLength_3 ?_
  refine mm_iadd (pc := 4) dX9_imageLength_4 ?_
  refine mm_iload_n (pc := 5) (j := 0) dX9_imageLength_5 rfl rfl ?_
  refine mm_iload_n (pc := 6) (j := 0) dX9_imageLength_6 rfl rfl ?_
  refine mm_iconst (pc := 7) (x := 1) dX9_imageLength_7 rfl ?_
  refine mm_isub (pc := 8) dX9_imageLength_8 ?_
  refine mm_imul (pc := 9) dX9_imageLength_9 ?_
  refine mm_iconst (pc := 10) (x := 2) dX9_imageLength_10 rfl ?_
  refine mm_idiv (pc := 11) dX9_imageLength_11 (by decide) ?_
  refine mm_iadd (pc := 12) dX9_imageLength_12 ?_
  refine mm_iconst (pc := 13) (x := 1) dX9_imageLength_13 rfl ?_
  refine mm_iadd (pc := 14) dX9_imageLength_14 ?_
  exact mm_iret (pc := 15) dX9_imageLength_15 rfl (Nat.le_refl 0) (Nat.le_refl 0) ⟨_, rfl, rfl, hG, h⟩
def jX9_checkByte_6 (d : Nat) (r0 : Nat) (n0 : Nat) (x1 : Int32) (M : mm_M) (K : Int32 → mm_M → Prop) (y1 : Int32) (y2 : Int32) (y3 : Int32) : Prop := mm_W mX9_checkByte d 0 0 6 [(0, .ref r0), (1, .int y1), (2, .int y2), (3, .int y3)] [] mm_SH M 0 0 (mm_PI K)
set_option maxRecDepth 100000 in
set_option maxHeartbeats 4000000 in
theorem rX9_checkByte {d : Nat} {r0 : Nat} {n0 : Nat} {x1 : Int32} {M : mm_M} {K : Int32 → mm_M → Prop} (hr0 : mm_SH[r0]? = some (0, n0)) (hG : mm_G M.2.2) (h : jX9_checkByte_6 d r0 n0 x1 M K x1 233 0) : mm_CI mX9_checkByte d [.ref r0, .int x1] M K := by
  show mm_W mX9_checkByte d 0 0 0 [(0, .ref r0), (1, .int x1)] [] mm_SH M 0 0 (mm_PI K)
  refine mm_sipush (pc := 0) (x := 233) dX9_checkByte_0 rfl ?_
  refine mm_istore_n (pc := 3) (lv' := [(2, .int 233), (0, .ref r0), (1, .int x1)]) dX9_checkByte_3 rfl (by decide) rfl ?_
  refine mm_iconst (pc := 4) (x := 0) dX9_checkByte_4 rfl ?_
  refine mm_istore_n (pc := 5) (lv' := [(3, .int 0), (2, .int 233), (0, .ref r0), (1, .int x1)]) dX9_checkByte_5 rfl (by decide) rfl ?_
  exact mm_sub [2, 3, 1, 0] rfl h
set_option maxRecDepth 100000 in
set_option maxHeartbeats 4000000 in
theorem lX9_checkByte_6 {d : Nat} {r0 : Nat} {n0 : Nat} {x1 : Int32} {M : mm_M} {K : Int32 → mm_M → Prop} {y1 : Int32} {y2 : Int32} {y3 : Int32} (hr0 : mm_SH[r0]? = some (0, n0)) (hG : mm_G M.2.2) (h : if y1 ≤ y3 then (K y2 M) else (if (nI n0) ≤ y3 then (K y2 M) else (vp_in y3 n0 ∧ jX9_checkByte_6 d r0 n0 x1 M K y1 (((3 * y2) + (M.1 r0 y3.toNatClampNeg)) - ((3 * y2) + (M.1 r0 y3.toNatClampNeg)) / 251 * 251) (y3 + 1)))) : jX9_checkByte_6 d r0 n0 x1 M K y1 y2 y3 := by
  unfold jX9_checkByte_6
  refine mm_iload_n (pc := 6) (j := 3) dX9_checkByte_6 rfl rfl ?_
  refine mm_iload_n (pc := 7) (j := 1) dX9_checkByte_7 rfl rfl ?_
  refine mm_icmp_ge (pc := 8) (tgt := 35) dX9_checkByte_8 (by decide) (fun hc => ?_) (fun hc => ?_)
  · have h := mm_ift hc h
    refine mm_iload_n (pc := 35) (j := 2) dX9_checkByte_35 rfl rfl ?_
    exact mm_iret (pc := 36) dX9_checkByte_36 rfl (Nat.le_refl 0) (Nat.le_refl 0) ⟨_, rfl, rfl, hG, h⟩
  · have h := mm_iff hc h
    refine mm_iload_n (pc := 11) (j := 3) dX9_checkByte_11 rfl rfl ?_
    refine mm_aload_n (pc := 12) (j := 0) dX9_checkByte_12 rfl rfl ?_
    refine mm_alen (pc := 13) (t := 0) (N := n0) dX9_checkByte_13 hr0 (by decide) ?_
    refine mm_icmp_ge (pc := 14) (tgt := 35) dX9_checkByte_14 (by decide) (fun hc => ?_) (fun hc => ?_)
    · have h := mm_ift hc h
      refine mm_iload_n (pc := 35) (j := 2) dX9_checkByte_35 rfl rfl ?_
      exact mm_iret (pc := 36) dX9_checkByte_36 rfl (Nat.le_refl 0) (Nat.le_refl 0) ⟨_, rfl, rfl, hG, h⟩
    · have h := mm_iff hc h
      refine mm_iconst (pc := 17) (x := 3) dX9_checkByte_17 rfl ?_
      refine mm_iload_n (pc := 18) (j := 2) dX9_checkByte_18 rfl rfl ?_
      refine mm_imul (pc := 19) dX9_checkByte_19 ?_
      refine mm_aload_n (pc := 20) (j := 0) dX9_checkByte_20 rfl rfl ?_
      refine mm_iload_n (pc := 21) (j := 3) dX9_checkByte_21 rfl rfl ?_
      obtain ⟨hi22, h⟩ := h
      refine mm_iaload (pc := 22) (N := n0) dX9_checkByte_22 hr0 hi22 ?_
      refine mm_iadd (pc := 23) dX9_checkByte_23 ?_
      refine mm_sipush (pc := 24) (x := 251) dX9_checkByte_24 rfl ?_
      refine mm_irem (pc := 27) dX9_checkByte_27 (by decide) ?_
      refine mm_istore_n (pc := 28) (lv' := [(2, .int (((3 * y2) + (M.1 r0 y3.toNatClampNeg)) - ((3 * y2) + (M.1 r0 y3.toNatClampNeg)) / 251 * 251)), (0, .ref r0), (1, .int y1), (3, .int y3)]) dX9_checkByte_28 rfl (by decide) rfl ?_
      refine mm_iinc (pc := 29) (j := 3) (v := y3 + 1) (lv' := [(3, .int (y3 + 1)), (2, .int (((3 * y2) + (M.1 r0 y3.toNatClampNeg)) - ((3 * y2) + (M.1 r0 y3.toNatClampNeg)) / 251 * 251)), (0, .ref r0), (1, .int y1)]) dX9_checkByte_29 rfl rfl (by decide) rfl ?_
      refine mm_goto (pc := 32) (tgt := 6) dX9_checkByte_32 (by decide) ?_
      exact mm_sub [2, 3, 1, 0] rfl h
def jX9_writeImage_41 (d : Nat) (a : Nat) (r1 : Nat) (n1 : Nat) (x2 : Int32) (M : mm_M) (K : Int32 → mm_M → Prop) (y2 : Int32) (y3 : Int32) (y4 : Int32) (y5 : Int32) : Prop := mm_W mX9_writeImage (d + 1) 0 0 41 [(0, .ref a), (1, .ref r1), (2, .int y2), (3, .int y3), (4, .int y4), (5, .int y5)] [] mm_SH M 0 0 (mm_PI K)
def jX9_writeImage_103 (d : Nat) (a : Nat) (r1 : Nat) (n1 : Nat) (x2 : Int32) (M : mm_M) (K : Int32 → mm_M → Prop) (y2 : Int32) (y3 : Int32) (y4 : Int32) (y5 : Int32) : Prop := mm_W mX9_writeImage (d + 1) 0 0 103 [(0, .ref a), (1, .ref r1), (2, .int y2), (3, .int y3), (4, .int y4), (5, .int y5)] [] mm_SH M 0 0 (mm_PI K)
def jX9_writeImage_64 (d : Nat) (a : Nat) (r1 : Nat) (n1 : Nat) (x2 : Int32) (M : mm_M) (K : Int32 → mm_M → Prop) (y2 : Int32) (y3 : Int32) (y4 : Int32) (y5 : Int32) (u0 : Int32) (u1 : Int32) : Prop := mm_W mX9_writeImage (d + 1) 0 0 64 [(0, .ref a), (1, .ref r1), (2, .int y2), (3, .int y3), (4, .int y4), (5, .int y5)] [.int u0, .int u1, .ref r1] mm_SH M 0 0 (mm_PI K)
def jX9_writeImage_115 (d : Nat) (a : Nat) (r1 : Nat) (n1 : Nat) (x2 : Int32) (M : mm_M) (K : Int32 → mm_M → Prop) (y2 : Int32) (y3 : Int32) (y4 : Int32) (y5 : Int32) (y6 : Int32) : Prop := mm_W mX9_writeImage (d + 1) 0 0 115 [(0, .ref a), (1, .ref r1), (2, .int y2), (3, .int y3), (4, .int y4), (5, .int y5), (6, .int y6)] [] mm_SH M 0 0 (mm_PI K)
set_option maxRecDepth 100000 in
set_option maxHeartbeats 4000000 in
theorem rX9_writeImage {d : Nat} {a : Nat} {r1 : Nat} {n1 : Nat} {x2 : Int32} {M : mm_M} {K : Int32 → mm_M → Prop} (ha : a ∈ mm_Sts) (hr1 : mm_SH[r1]? = some (0, n1)) (hG : mm_G M.2.2) (h : mm_CI mX9_imageLength d [.int x2] M (fun z1 m1 => if z1 ≤ (nI n1) then (vp_in 0 n1 ∧ vp_in 1 n1 ∧ jX9_writeImage_41 d a r1 n1 x2 (mm_uI (mm_uI m1 r1 (0 : Int32).toNatClampNeg ((m1.1 a 0) / 256)) r1 (1 : Int32).toNatClampNeg (((mm_uI m1 r1 (0 : Int32).toNatClampNeg ((m1.1 a 0) / 256)).1 a 0) - ((mm_uI m1 r1 (0 : Int32).toNatClampNeg ((m1.1 a 0) / 256)).1 a 0) / 256 * 256)) K x2 z1 2 0) else (K 0 m1))) : mm_CI mX9_writeImage (d + 1) [.ref a, .ref r1, .int x2] M K := by
  show mm_W mX9_writeImage (d + 1) 0 0 0 [(0, .ref a), (1, .ref r1), (2, .int x2)] [] mm_SH M 0 0 (mm_PI K)
  refine mm_iload_n (pc := 0) (j := 2) dX9_writeImage_0 rfl rfl ?_
  refine mm_kSI (pc := 1) [.int x2] dX9_writeImage_1 kX9_75 rfl (Nat.le_of_ble_eq_true rfl) (Nat.le_of_ble_eq_true rfl) h (fun z1 m1 hG h => ?_)
  refine mm_istore_n (pc := 4) (lv' := [(3, .int z1), (0, .ref a), (1, .ref r1), (2, .int x2)]) dX9_writeImage_4 rfl (by decide) rfl ?_
  refine mm_iload_n (pc := 5) (j := 0) dX9_writeImage_5 rfl rfl ?_
  refine mm_aload_n (pc := 6) (j := 2) dX9_writeImage_6 rfl rfl ?_
  refine mm_alen (pc := 7) (t := 0) (N := n1) dX9_writeImage_7 hr1 (by decide) ?_
  refine mm_icmp_le (pc := 8) (tgt := 13) dX9_writeImage_8 (by decide) (fun hc => ?_) (fun hc => ?_)
  · have h := mm_ift hc h
    refine mm_aload_n (pc := 13) (j := 2) dX9_writeImage_13 rfl rfl ?_
    refine mm_iconst (pc := 14) (x := 0) dX9_writeImage_14 rfl ?_
    refine mm_aload_n (pc := 15) (j := 1) dX9_writeImage_15 rfl rfl ?_
    refine mm_getI (pc := 16) (ci := 9) (N := 7) dX9_writeImage_16 fX9_24 (sh_St ha) rfl ?_
    refine mm_sipush (pc := 19) (x := 256) dX9_writeImage_19 rfl ?_
    refine mm_idiv (pc := 22) dX9_writeImage_22 (by decide) ?_
    obtain ⟨hi23, h⟩ := h
    refine mm_iastore (pc := 23) (N := n1) dX9_writeImage_23 hr1 hi23 ?_
    refine mm_aload_n (pc := 24) (j := 2) dX9_writeImage_24 rfl rfl ?_
    refine mm_iconst (pc := 25) (x := 1) dX9_writeImage_25 rfl ?_
    refine mm_aload_n (pc := 26) (j := 1) dX9_writeImage_26 rfl rfl ?_
    refine mm_getI (pc := 27) (ci := 9) (N := 7) dX9_writeImage_27 fX9_24 (sh_St ha) rfl ?_
    refine mm_sipush (pc := 30) (x := 256) dX9_writeImage_30 rfl ?_
    refine mm_irem (pc := 33) dX9_writeImage_33 (by decide) ?_
    obtain ⟨hi34, h⟩ := h
    refine mm_iastore (pc := 34) (N := n1) dX9_writeImage_34 hr1 hi34 ?_
    refine mm_iconst (pc := 35) (x := 2) dX9_writeImage_35 rfl ?_
    refine mm_istore (pc := 36) (lv' := [(4, .int 2), (3, .int z1), (0, .ref a), (1, .ref r1), (2, .int x2)]) dX9_writeImage_36 (by decide) rfl ?_
    refine mm_iconst (pc := 38) (x := 0) dX9_writeImage_38 rfl ?_
    refine mm_istore (pc := 39) (lv' := [(5, .int 0), (4, .int 2), (3, .int z1), (0, .ref a), (1, .ref r1), (2, .int x2)]) dX9_writeImage_39 (by decide) rfl ?_
    exact mm_sub [3, 4, 5, 2, 1, 0] rfl h
  · have h := mm_iff hc h
    refine mm_iconst (pc := 11) (x := 0) dX9_writeImage_11 rfl ?_
    exact mm_iret (pc := 12) dX9_writeImage_12 rfl (Nat.le_refl 0) (Nat.le_refl 0) ⟨_, rfl, rfl, hG, h⟩
set_option maxRecDepth 100000 in
set_option maxHeartbeats 4000000 in
theorem lX9_writeImage_41 {d : Nat} {a : Nat} {r1 : Nat} {n1 : Nat} {x2 : Int32} {M : mm_M} {K : Int32 → mm_M → Prop} {y2 : Int32} {y3 : Int32} {y4 : Int32} {y5 : Int32} (ha : a ∈ mm_Sts) (hr1 : mm_SH[r1]? = some (0, n1)) (hG : mm_G M.2.2) (h : if y2 ≤ y5 then (jX9_writeImage_103 d a r1 n1 x2 M K y2 y3 y4 0) else (mm_CI mX9_isThere d [.ref a, .int y5] M (fun z53 m53 => if z53 = 0 then (jX9_writeImage_64 d a r1 n1 x2 m53 K y2 y3 y4 y5 0 y4) else (jX9_writeImage_64 d a r1 n1 x2 m53 K y2 y3 y4 y5 1 y4)))) : jX9_writeImage_41 d a r1 n1 x2 M K y2 y3 y4 y5 := by
  unfold jX9_writeImage_41
  refine mm_iload (pc := 41) (j := 5) dX9_writeImage_41 rfl ?_
  refine mm_iload_n (pc := 43) (j := 2) dX9_writeImage_43 rfl rfl ?_
  refine mm_icmp_ge (pc := 44) (tgt := 100) dX9_writeImage_44 (by decide) (fun hc => ?_) (fun hc => ?_)
  · have h := mm_ift hc h
    refine mm_iconst (pc := 100) (x := 0) dX9_writeImage_100 rfl ?_
    refine mm_istore (pc := 101) (lv' := [(5, .int 0), (0, .ref a), (1, .ref r1), (2, .int y2), (3, .int y3), (4, .int y4)]) dX9_writeImage_101 (by decide) rfl ?_
    exact mm_sub [1, 2, 3, 4, 5, 0] rfl h
  · have h := mm_iff hc h
    refine mm_aload_n (pc := 47) (j := 1) dX9_writeImage_47 rfl rfl ?_
    refine mm_iload (pc := 48) (j := 4) dX9_writeImage_48 rfl ?_
    refine mm_aload_n (pc := 50) (j := 0) dX9_writeImage_50 rfl rfl ?_
    refine mm_iload (pc := 51) (j := 5) dX9_writeImage_51 rfl ?_
    refine mm_kVI (pc := 53) [.int y5] dX9_writeImage_53 kX9_61 rfl (sh_St ha) (Nat.le_of_ble_eq_true rfl) (Nat.le_of_ble_eq_true rfl) h (fun z53 m53 hG h => ?_)
    refine mm_if_eq (pc := 56) (tgt := 63) dX9_writeImage_56 (by decide) (fun hc => ?_) (fun hc => ?_)
    · have h := mm_ift hc h
      refine mm_iconst (pc := 63) (x := 0) dX9_writeImage_63 rfl ?_
      exact h
    · have h := mm_iff hc h
      refine mm_iconst (pc := 59) (x := 1) dX9_writeImage_59 rfl ?_
      refine mm_goto (pc := 60) (tgt := 64) dX9_writeImage_60 (by decide) ?_
      exact h
set_option maxRecDepth 100000 in
set_option maxHeartbeats 4000000 in
theorem lX9_writeImage_103 {d : Nat} {a : Nat} {r1 : Nat} {n1 : Nat} {x2 : Int32} {M : mm_M} {K : Int32 → mm_M → Prop} {y2 : Int32} {y3 : Int32} {y4 : Int32} {y5 : Int32} (ha : a ∈ mm_Sts) (hr1 : mm_SH[r1]? = some (0, n1)) (hG : mm_G M.2.2) (h : if y2 ≤ y5 then (mm_CI mX9_checkByte d [.ref r1, .int y4] M (fun z159 m159 => vp_in y4 n1 ∧ K y3 (mm_uI m159 r1 y4.toNatClampNeg z159))) else (jX9_writeImage_115 d a r1 n1 x2 M K y2 y3 y4 y5 (y5 + 1))) : jX9_writeImage_103 d a r1 n1 x2 M K y2 y3 y4 y5 := by
  unfold jX9_writeImage_103
  refine mm_iload (pc := 103) (j := 5) dX9_writeImage_103 rfl ?_
  refine mm_iload_n (pc := 105) (j := 2) dX9_writeImage_105 rfl rfl ?_
  refine mm_icmp_ge (pc := 106) (tgt := 153) dX9_writeImage_106 (by decide) (fun hc => ?_) (fun hc => ?_)
  · have h := mm_ift hc h
    refine mm_aload_n (pc := 153) (j := 1) dX9_writeImage_153 rfl rfl ?_
    refine mm_iload (pc := 154) (j := 4) dX9_writeImage_154 rfl ?_
    refine mm_aload_n (pc := 156) (j := 1) dX9_writeImage_156 rfl rfl ?_
    refine mm_iload (pc := 157) (j := 4) dX9_writeImage_157 rfl ?_
    refine mm_kSI (pc := 159) [.ref r1, .int y4] dX9_writeImage_159 kX9_78 rfl (Nat.le_of_ble_eq_true rfl) (Nat.le_of_ble_eq_true rfl) h (fun z159 m159 hG h => ?_)
    obtain ⟨hi162, h⟩ := h
    refine mm_iastore (pc := 162) (N := n1) dX9_writeImage_162 hr1 hi162 ?_
    refine mm_iload_n (pc := 163) (j := 3) dX9_writeImage_163 rfl rfl ?_
    exact mm_iret (pc := 164) dX9_writeImage_164 rfl (Nat.le_refl 0) (Nat.le_refl 0) ⟨_, rfl, rfl, hG, h⟩
  · have h := mm_iff hc h
    refine mm_iload (pc := 109) (j := 5) dX9_writeImage_109 rfl ?_
    refine mm_iconst (pc := 111) (x := 1) dX9_writeImage_111 rfl ?_
    refine mm_iadd (pc := 112) dX9_writeImage_112 ?_
    refine mm_istore (pc := 113) (lv' := [(6, .int (y5 + 1)), (0, .ref a), (1, .ref r1), (2, .int y2), (3, .int y3), (4, .int y4), (5, .int y5)]) dX9_writeImage_113 (by decide) rfl ?_
    exact mm_sub [1, 2, 3, 4, 5, 6, 0] rfl h
set_option maxRecDepth 100000 in
set_option maxHeartbeats 4000000 in
theorem lX9_writeImage_64 {d : Nat} {a : Nat} {r1 : Nat} {n1 : Nat} {x2 : Int32} {M : mm_M} {K : Int32 → mm_M → Prop} {y2 : Int32} {y3 : Int32} {y4 : Int32} {y5 : Int32} {u0 : Int32} {u1 : Int32} (ha : a ∈ mm_Sts) (hr1 : mm_SH[r1]? = some (0, n1)) (hG : mm_G M.2.2) (h : vp_in u1 n1 ∧ vp_in y5 7 ∧ vp_in (y4 + 1) n1 ∧ vp_in y5 7 ∧ vp_in (y4 + 2) n1 ∧ jX9_writeImage_41 d a r1 n1 x2 (mm_uI (mm_uI (mm_uI M r1 u1.toNatClampNeg u0) r1 (y4 + 1).toNatClampNeg ((mm_uI M r1 u1.toNatClampNeg u0).1 (a + 1) y5.toNatClampNeg)) r1 (y4 + 2).toNatClampNeg ((mm_uI (mm_uI M r1 u1.toNatClampNeg u0) r1 (y4 + 1).toNatClampNeg ((mm_uI M r1 u1.toNatClampNeg u0).1 (a + 1) y5.toNatClampNeg)).1 (a + 2) y5.toNatClampNeg)) K y2 y3 (y4 + 3) (y5 + 1)) : jX9_writeImage_64 d a r1 n1 x2 M K y2 y3 y4 y5 u0 u1 := by
  unfold jX9_writeImage_64
  obtain ⟨hi64, h⟩ := h
  refine mm_iastore (pc := 64) (N := n1) dX9_writeImage_64 hr1 hi64 ?_
  refine mm_aload_n (pc := 65) (j := 1) dX9_writeImage_65 rfl rfl ?_
  refine mm_iload (pc := 66) (j := 4) dX9_writeImage_66 rfl ?_
  refine mm_iconst (pc := 68) (x := 1) dX9_writeImage_68 rfl ?_
  refine mm_iadd (pc := 69) dX9_writeImage_69 ?_
  refine mm_aload_n (pc := 70) (j := 0) dX9_writeImage_70 rfl rfl ?_
  refine mm_getR (pc := 71) (ci := 9) (N := 7) (r := a + 1) dX9_writeImage_71 fX9_9 (sh_St ha) rfl (g_St_3 hG ha) ?_
  refine mm_iload (pc := 74) (j := 5) dX9_writeImage_74 rfl ?_
  obtain ⟨hi76, h⟩ := h
  refine mm_iaload (pc := 76) (N := 7) dX9_writeImage_76 (sh_St_1 ha) hi76 ?_
  obtain ⟨hi77, h⟩ := h
  refine mm_iastore (pc := 77) (N := n1) dX9_writeImage_77 hr1 hi77 ?_
  refine mm_aload_n (pc := 78) (j := 1) dX9_writeImage_78 rfl rfl ?_
  refine mm_iload (pc := 79) (j := 4) dX9_writeImage_79 rfl ?_
  refine mm_iconst (pc := 81) (x := 2) dX9_writeImage_81 rfl ?_
  refine mm_iadd (pc := 82) dX9_writeImage_82 ?_
  refine mm_aload_n (pc := 83) (j := 0) dX9_writeImage_83 rfl rfl ?_
  refine mm_getR (pc := 84) (ci := 9) (N := 7) (r := a + 2) dX9_writeImage_84 fX9_15 (sh_St ha) rfl (g_St_4 hG ha) ?_
  refine mm_iload (pc := 87) (j := 5) dX9_writeImage_87 rfl ?_
  obtain ⟨hi89, h⟩ := h
  refine mm_iaload (pc := 89) (N := 7) dX9_writeImage_89 (sh_St_2 ha) hi89 ?_
  obtain ⟨hi90, h⟩ := h
  refine mm_iastore (pc := 90) (N := n1) dX9_writeImage_90 hr1 hi90 ?_
  refine mm_iinc (pc := 91) (j := 4) (v := y4 + 3) (lv' := [(4, .int (y4 + 3)), (0, .ref a), (1, .ref r1), (2, .int y2), (3, .int y3), (5, .int y5)]) dX9_writeImage_91 rfl rfl (by decide) rfl ?_
  refine mm_iinc (pc := 94) (j := 5) (v := y5 + 1) (lv' := [(5, .int (y5 + 1)), (4, .int (y4 + 3)), (0, .ref a), (1, .ref r1), (2, .int y2), (3, .int y3)]) dX9_writeImage_94 rfl rfl (by decide) rfl ?_
  refine mm_goto (pc := 97) (tgt := 41) dX9_writeImage_97 (by decide) ?_
  exact mm_sub [2, 3, 4, 5, 1, 0] rfl h
set_option maxRecDepth 100000 in
set_option maxHeartbeats 4000000 in
theorem lX9_writeImage_115 {d : Nat} {a : Nat} {r1 : Nat} {n1 : Nat} {x2 : Int32} {M : mm_M} {K : Int32 → mm_M → Prop} {y2 : Int32} {y3 : Int32} {y4 : Int32} {y5 : Int32} {y6 : Int32} (ha : a ∈ mm_Sts) (hr1 : mm_SH[r1]? = some (0, n1)) (hG : mm_G M.2.2) (h : if y2 ≤ y6 then (jX9_writeImage_103 d a r1 n1 x2 M K y2 y3 y4 (y5 + 1)) else (vp_in ((8 * y5) + y6) 64 ∧ vp_in y4 n1 ∧ jX9_writeImage_115 d a r1 n1 x2 (mm_uI M r1 y4.toNatClampNeg (M.1 (a + 3) ((8 * y5) + y6).toNatClampNeg)) K y2 y3 (y4 + 1) y5 (y6 + 1))) : jX9_writeImage_115 d a r1 n1 x2 M K y2 y3 y4 y5 y6 := by
  unfold jX9_writeImage_115
  refine mm_iload (pc := 115) (j := 6) dX9_writeImage_115 rfl ?_
  refine mm_iload_n (pc := 117) (j := 2) dX9_writeImage_117 rfl rfl ?_
  refine mm_icmp_ge (pc := 118) (tgt := 147) dX9_writeImage_118 (by decide) (fun hc => ?_) (fun hc => ?_)
  · have h := mm_ift hc h
    refine mm_iinc (pc := 147) (j := 5) (v := y5 + 1) (lv' := [(5, .int (y5 + 1)), (0, .ref a), (1, .ref r1), (2, .int y2), (3, .int y3), (4, .int y4), (6, .int y6)]) dX9_writeImage_147 rfl rfl (by decide) rfl ?_
    refine mm_goto (pc := 150) (tgt := 103) dX9_writeImage_150 (by decide) ?_
    exact mm_sub [1, 2, 3, 4, 5, 0] rfl h
  · have h := mm_iff hc h
    refine mm_aload_n (pc := 121) (j := 1) dX9_writeImage_121 rfl rfl ?_
    refine mm_iload (pc := 122) (j := 4) dX9_writeImage_122 rfl ?_
    refine mm_aload_n (pc := 124) (j := 0) dX9_writeImage_124 rfl rfl ?_
    refine mm_getR (pc := 125) (ci := 9) (N := 7) (r := a + 3) dX9_writeImage_125 fX9_18 (sh_St ha) rfl (g_St_5 hG ha) ?_
    refine mm_bipush (pc := 128) (x := 8) dX9_writeImage_128 rfl ?_
    refine mm_iload (pc := 130) (j := 5) dX9_writeImage_130 rfl ?_
    refine mm_imul (pc := 132) dX9_writeImage_132 ?_
    refine mm_iload (pc := 133) (j := 6) dX9_writeImage_133 rfl ?_
    refine mm_iadd (pc := 135) dX9_writeImage_135 ?_
    obtain ⟨hi136, h⟩ := h
    refine mm_iaload (pc := 136) (N := 64) dX9_writeImage_136 (sh_St_3 ha) hi136 ?_
    obtain ⟨hi137, h⟩ := h
    refine mm_iastore (pc := 137) (N := n1) dX9_writeImage_137 hr1 hi137 ?_
    refine mm_iinc (pc := 138) (j := 4) (v := y4 + 1) (lv' := [(4, .int (y4 + 1)), (0, .ref a), (1, .ref r1), (2, .int y2), (3, .int y3), (5, .int y5), (6, .int y6)]) dX9_writeImage_138 rfl rfl (by decide) rfl ?_
    refine mm_iinc (pc := 141) (j := 6) (v := y6 + 1) (lv' := [(6, .int (y6 + 1)), (4, .int (y4 + 1)), (0, .ref a), (1, .ref r1), (2, .int y2), (3, .int y3), (5, .int y5)]) dX9_writeImage_141 rfl rfl (by decide) rfl ?_
    refine mm_goto (pc := 144) (tgt := 115) dX9_writeImage_144 (by decide) ?_
    exact mm_sub [2, 3, 4, 5, 1, 6, 0] rfl h
def jX9_isImage_50 (d : Nat) (r0 : Nat) (n0 : Nat) (x1 : Int32) (x2 : Int32) (M : mm_M) (K : Int32 → mm_M → Prop) (y2 : Int32) (y3 : Int32) : Prop := mm_W mX9_isImage (d + 1) 0 0 50 [(0, .ref r0), (2, .int y2), (3, .int y3)] [] mm_SH M 0 0 (mm_PI K)
def jX9_isImage_109 (d : Nat) (r0 : Nat) (n0 : Nat) (x1 : Int32) (x2 : Int32) (M : mm_M) (K : Int32 → mm_M → Prop) (y2 : Int32) (y3 : Int32) (y4 : Int32) : Prop := mm_W mX9_isImage (d + 1) 0 0 109 [(0, .ref r0), (2, .int y2), (3, .int y3), (4, .int y4)] [] mm_SH M 0 0 (mm_PI K)
def jX9_isImage_121 (d : Nat) (r0 : Nat) (n0 : Nat) (x1 : Int32) (x2 : Int32) (M : mm_M) (K : Int32 → mm_M → Prop) (y2 : Int32) (y3 : Int32) (y4 : Int32) (y5 : Int32) : Prop := mm_W mX9_isImage (d + 1) 0 0 121 [(0, .ref r0), (2, .int y2), (3, .int y3), (4, .int y4), (5, .int y5)] [] mm_SH M 0 0 (mm_PI K)
def jX9_isImage_156 (d : Nat) (r0 : Nat) (n0 : Nat) (x1 : Int32) (x2 : Int32) (M : mm_M) (K : Int32 → mm_M → Prop) (y2 : Int32) (y3 : Int32) (y4 : Int32) (y5 : Int32) (u0 : Int32) : Prop := mm_W mX9_isImage (d + 1) 0 0 156 [(0, .ref r0), (2, .int y2), (3, .int y3), (4, .int y4), (5, .int y5)] [.int u0] mm_SH M 0 0 (mm_PI K)
set_option maxRecDepth 100000 in
set_option maxHeartbeats 4000000 in
theorem rX9_isImage {d : Nat} {r0 : Nat} {n0 : Nat} {x1 : Int32} {x2 : Int32} {M : mm_M} {K : Int32 → mm_M → Prop} (hr0 : mm_SH[r0]? = some (0, n0)) (hG : mm_G M.2.2) (h : mm_CI mX9_imageLength d [.int x2] M (fun z2 m2 => if x1 = z2 then (if (nI n0) < x1 then (K 0 m2) else (vp_in 0 n0 ∧ vp_in 1 n0 ∧ if 999 < (((m2.1 r0 (0 : Int32).toNatClampNeg) * 256) + (m2.1 r0 (1 : Int32).toNatClampNeg)) then (K 0 m2) else (vp_in (x1 - 1) n0 ∧ mm_CI mX9_checkByte d [.ref r0, .int (x1 - 1)] m2 (fun z40 m40 => if (m2.1 r0 (x1 - 1).toNatClampNeg) = z40 then (jX9_isImage_50 d r0 n0 x1 x2 m40 K x2 0) else (K 0 m40))))) else (K 0 m2))) : mm_CI mX9_isImage (d + 1) [.ref r0, .int x1, .int x2] M K := by
  show mm_W mX9_isImage (d + 1) 0 0 0 [(0, .ref r0), (1, .int x1), (2, .int x2)] [] mm_SH M 0 0 (mm_PI K)
  refine mm_iload_n (pc := 0) (j := 1) dX9_isImage_0 rfl rfl ?_
  refine mm_iload_n (pc := 1) (j := 2) dX9_isImage_1 rfl rfl ?_
  refine mm_kSI (pc := 2) [.int x2] dX9_isImage_2 kX9_75 rfl (Nat.le_of_ble_eq_true rfl) (Nat.le_of_ble_eq_true rfl) h (fun z2 m2 hG h => ?_)
  refine mm_icmp_ne (pc := 5) (tgt := 46) dX9_isImage_5 (by decide) (fun hc => ?_) (fun hc => ?_)
  · have h := mm_iff hc h
    refine mm_iconst (pc := 46) (x := 0) dX9_isImage_46 rfl ?_
    exact mm_zret (pc := 47) dX9_isImage_47 rfl rfl (Nat.le_refl 0) (Nat.le_refl 0) ⟨_, rfl, rfl, hG, h⟩
  · have h := mm_ift hc h
    refine mm_iload_n (pc := 8) (j := 1) dX9_isImage_8 rfl rfl ?_
    refine mm_aload_n (pc := 9) (j := 0) dX9_isImage_9 rfl rfl ?_
    refine mm_alen (pc := 10) (t := 0) (N := n0) dX9_isImage_10 hr0 (by decide) ?_
    refine mm_icmp_gt (pc := 11) (tgt := 46) dX9_isImage_11 (by decide) (fun hc => ?_) (fun hc => ?_)
    · have h := mm_ift hc h
      refine mm_iconst (pc := 46) (x := 0) dX9_isImage_46 rfl ?_
      exact mm_zret (pc := 47) dX9_isImage_47 rfl rfl (Nat.le_refl 0) (Nat.le_refl 0) ⟨_, rfl, rfl, hG, h⟩
    · have h := mm_iff hc h
      refine mm_aload_n (pc := 14) (j := 0) dX9_isImage_14 rfl rfl ?_
      refine mm_iconst (pc := 15) (x := 0) dX9_isImage_15 rfl ?_
      obtain ⟨hi16, h⟩ := h
      refine mm_iaload (pc := 16) (N := n0) dX9_isImage_16 hr0 hi16 ?_
      refine mm_sipush (pc := 17) (x := 256) dX9_isImage_17 rfl ?_
      refine mm_imul (pc := 20) dX9_isImage_20 ?_
      refine mm_aload_n (pc := 21) (j := 0) dX9_isImage_21 rfl rfl ?_
      refine mm_iconst (pc := 22) (x := 1) dX9_isImage_22 rfl ?_
      obtain ⟨hi23, h⟩ := h
      refine mm_iaload (pc := 23) (N := n0) dX9_isImage_23 hr0 hi23 ?_
      refine mm_iadd (pc := 24) dX9_isImage_24 ?_
      refine mm_sipush (pc := 25) (x := 999) dX9_isImage_25 rfl ?_
      refine mm_icmp_gt (pc := 28) (tgt := 46) dX9_isImage_28 (by decide) (fun hc => ?_) (fun hc => ?_)
      · have h := mm_ift hc h
        refine mm_iconst (pc := 46) (x := 0) dX9_isImage_46 rfl ?_
        exact mm_zret (pc := 47) dX9_isImage_47 rfl rfl (Nat.le_refl 0) (Nat.le_refl 0) ⟨_, rfl, rfl, hG, h⟩
      · have h := mm_iff hc h
        refine mm_aload_n (pc := 31) (j := 0) dX9_isImage_31 rfl rfl ?_
        refine mm_iload_n (pc := 32) (j := 1) dX9_isImage_32 rfl rfl ?_
        refine mm_iconst (pc := 33) (x := 1) dX9_isImage_33 rfl ?_
        refine mm_isub (pc := 34) dX9_isImage_34 ?_
        obtain ⟨hi35, h⟩ := h
        refine mm_iaload (pc := 35) (N := n0) dX9_isImage_35 hr0 hi35 ?_
        refine mm_aload_n (pc := 36) (j := 0) dX9_isImage_36 rfl rfl ?_
        refine mm_iload_n (pc := 37) (j := 1) dX9_isImage_37 rfl rfl ?_
        refine mm_iconst (pc := 38) (x := 1) dX9_isImage_38 rfl ?_
        refine mm_isub (pc := 39) dX9_isImage_39 ?_
        refine mm_kSI (pc := 40) [.ref r0, .int (x1 - 1)] dX9_isImage_40 kX9_78 rfl (Nat.le_of_ble_eq_true rfl) (Nat.le_of_ble_eq_true rfl) h (fun z40 m40 hG h => ?_)
        refine mm_icmp_eq (pc := 43) (tgt := 48) dX9_isImage_43 (by decide) (fun hc => ?_) (fun hc => ?_)
        · have h := mm_ift hc h
          refine mm_iconst (pc := 48) (x := 0) dX9_isImage_48 rfl ?_
          refine mm_istore_n (pc := 49) (lv' := [(3, .int 0), (0, .ref r0), (1, .int x1), (2, .int x2)]) dX9_isImage_49 rfl (by decide) rfl ?_
          exact mm_sub [1, 3, 0] rfl h
        · have h := mm_iff hc h
          refine mm_iconst (pc := 46) (x := 0) dX9_isImage_46 rfl ?_
          exact mm_zret (pc := 47) dX9_isImage_47 rfl rfl (Nat.le_refl 0) (Nat.le_refl 0) ⟨_, rfl, rfl, hG, h⟩
set_option maxRecDepth 100000 in
set_option maxHeartbeats 4000000 in
theorem lX9_isImage_50 {d : Nat} {r0 : Nat} {n0 : Nat} {x1 : Int32} {x2 : Int32} {M : mm_M} {K : Int32 → mm_M → Prop} {y2 : Int32} {y3 : Int32} (hr0 : mm_SH[r0]? = some (0, n0)) (hG : mm_G M.2.2) (h : if y2 ≤ y3 then (jX9_isImage_109 d r0 n0 x1 x2 M K y2 (2 + (3 * y2)) 0) else (vp_in (2 + (3 * y3)) n0 ∧ if 1 < (M.1 r0 (2 + (3 * y3)).toNatClampNeg) then (K 0 M) else (vp_in ((2 + (3 * y3)) + 1) n0 ∧ if 99 < (M.1 r0 ((2 + (3 * y3)) + 1).toNatClampNeg) then (K 0 M) else (vp_in ((2 + (3 * y3)) + 2) n0 ∧ if (M.1 r0 ((2 + (3 * y3)) + 2).toNatClampNeg) ≤ 9 then (jX9_isImage_50 d r0 n0 x1 x2 M K y2 (y3 + 1)) else (K 0 M))))) : jX9_isImage_50 d r0 n0 x1 x2 M K y2 y3 := by
  unfold jX9_isImage_50
  refine mm_iload_n (pc := 50) (j := 2) dX9_isImage_50 rfl rfl ?_
  refine mm_iload_n (pc := 51) (j := 1) dX9_isImage_51 rfl rfl ?_
  refine mm_icmp_ge (pc := 52) (tgt := 100) dX9_isImage_52 (by decide) (fun hc => ?_) (fun hc => ?_)
  · have h := mm_ift hc h
    refine mm_iconst (pc := 100) (x := 2) dX9_isImage_100 rfl ?_
    refine mm_iconst (pc := 101) (x := 3) dX9_isImage_101 rfl ?_
    refine mm_iload_n (pc := 102) (j := 1) dX9_isImage_102 rfl rfl ?_
    refine mm_imul (pc := 103) dX9_isImage_103 ?_
    refine mm_iadd (pc := 104) dX9_isImage_104 ?_
    refine mm_istore_n (pc := 105) (lv' := [(3, .int (2 + (3 * y2))), (0, .ref r0), (2, .int y2)]) dX9_isImage_105 rfl (by decide) rfl ?_
    refine mm_iconst (pc := 106) (x := 0) dX9_isImage_106 rfl ?_
    refine mm_istore (pc := 107) (lv' := [(4, .int 0), (3, .int (2 + (3 * y2))), (0, .ref r0), (2, .int y2)]) dX9_isImage_107 (by decide) rfl ?_
    exact mm_sub [2, 3, 1, 0] rfl h
  · have h := mm_iff hc h
    refine mm_iconst (pc := 55) (x := 2) dX9_isImage_55 rfl ?_
    refine mm_iconst (pc := 56) (x := 3) dX9_isImage_56 rfl ?_
    refine mm_iload_n (pc := 57) (j := 2) dX9_isImage_57 rfl rfl ?_
    refine mm_imul (pc := 58) dX9_isImage_58 ?_
    refine mm_iadd (pc := 59) dX9_isImage_59 ?_
    refine mm_istore (pc := 60) (lv' := [(4, .int (2 + (3 * y3))), (0, .ref r0), (2, .int y2), (3, .int y3)]) dX9_isImage_60 (by decide) rfl ?_
    refine mm_aload_n (pc := 62) (j := 1) dX9_isImage_62 rfl rfl ?_
    refine mm_iload (pc := 63) (j := 0) dX9_isImage_63 rfl ?_
    obtain ⟨hi65, h⟩ := h
    refine mm_iaload (pc := 65) (N := n0) dX9_isImage_65 hr0 hi65 ?_
    refine mm_iconst (pc := 66) (x := 1) dX9_isImage_66 rfl ?_
    refine mm_icmp_gt (pc := 67) (tgt := 92) dX9_isImage_67 (by decide) (fun hc => ?_) (fun hc => ?_)
    · have h := mm_ift hc h
      refine mm_iconst (pc := 92) (x := 0) dX9_isImage_92 rfl ?_
      exact mm_zret (pc := 93) dX9_isImage_93 rfl rfl (Nat.le_refl 0) (Nat.le_refl 0) ⟨_, rfl, rfl, hG, h⟩
    · have h := mm_iff hc h
      refine mm_aload_n (pc := 70) (j := 1) dX9_isImage_70 rfl rfl ?_
      refine mm_iload (pc := 71) (j := 0) dX9_isImage_71 rfl ?_
      refine mm_iconst (pc := 73) (x := 1) dX9_isImage_73 rfl ?_
      refine mm_iadd (pc := 74) dX9_isImage_74 ?_
      obtain ⟨hi75, h⟩ := h
      refine mm_iaload (pc := 75) (N := n0) dX9_isImage_75 hr0 hi75 ?_
      refine mm_bipush (pc := 76) (x := 99) dX9_isImage_76 rfl ?_
      refine mm_icmp_gt (pc := 78) (tgt := 92) dX9_isImage_78 (by decide) (fun hc => ?_) (fun hc => ?_)
      · have h := mm_ift hc h
        refine mm_iconst (pc := 92) (x := 0) dX9_isImage_92 rfl ?_
        exact mm_zret (pc := 93) dX9_isImage_93 rfl rfl (Nat.le_refl 0) (Nat.le_refl 0) ⟨_, rfl, rfl, hG, h⟩
      · have h := mm_iff hc h
        refine mm_aload_n (pc := 81) (j := 1) dX9_isImage_81 rfl rfl ?_
        refine mm_iload (pc := 82) (j := 0) dX9_isImage_82 rfl ?_
        refine mm_iconst (pc := 84) (x := 2) dX9_isImage_84 rfl ?_
        refine mm_iadd (pc := 85) dX9_isImage_85 ?_
        obtain ⟨hi86, h⟩ := h
        refine mm_iaload (pc := 86) (N := n0) dX9_isImage_86 hr0 hi86 ?_
        refine mm_bipush (pc := 87) (x := 9) dX9_isImage_87 rfl ?_
        refine mm_icmp_le (pc := 89) (tgt := 94) dX9_isImage_89 (by decide) (fun hc => ?_) (fun hc => ?_)
        · have h := mm_ift hc h
          refine mm_iinc (pc := 94) (j := 3) (v := y3 + 1) (lv' := [(3, .int (y3 + 1)), (4, .int (2 + (3 * y3))), (0, .ref r0), (2, .int y2)]) dX9_isImage_94 rfl rfl (by decide) rfl ?_
          refine mm_goto (pc := 97) (tgt := 50) dX9_isImage_97 (by decide) ?_
          exact mm_sub [2, 3, 0] rfl h
        · have h := mm_iff hc h
          refine mm_iconst (pc := 92) (x := 0) dX9_isImage_92 rfl ?_
          exact mm_zret (pc := 93) dX9_isImage_93 rfl rfl (Nat.le_refl 0) (Nat.le_refl 0) ⟨_, rfl, rfl, hG, h⟩
set_option maxRecDepth 100000 in
set_option maxHeartbeats 4000000 in
theorem lX9_isImage_109 {d : Nat} {r0 : Nat} {n0 : Nat} {x1 : Int32} {x2 : Int32} {M : mm_M} {K : Int32 → mm_M → Prop} {y2 : Int32} {y3 : Int32} {y4 : Int32} (hr0 : mm_SH[r0]? = some (0, n0)) (hG : mm_G M.2.2) (h : if y2 ≤ y4 then (K 1 M) else (jX9_isImage_121 d r0 n0 x1 x2 M K y2 y3 y4 (y4 + 1))) : jX9_isImage_109 d r0 n0 x1 x2 M K y2 y3 y4 := by
  unfold jX9_isImage_109
  refine mm_iload (pc := 109) (j := 3) dX9_isImage_109 rfl ?_
  refine mm_iload_n (pc := 111) (j := 1) dX9_isImage_111 rfl rfl ?_
  refine mm_icmp_ge (pc := 112) (tgt := 192) dX9_isImage_112 (by decide) (fun hc => ?_) (fun hc => ?_)
  · have h := mm_ift hc h
    refine mm_iconst (pc := 192) (x := 1) dX9_isImage_192 rfl ?_
    exact mm_zret (pc := 193) dX9_isImage_193 rfl rfl (Nat.le_refl 0) (Nat.le_refl 0) ⟨_, rfl, rfl, hG, h⟩
  · have h := mm_iff hc h
    refine mm_iload (pc := 115) (j := 3) dX9_isImage_115 rfl ?_
    refine mm_iconst (pc := 117) (x := 1) dX9_isImage_117 rfl ?_
    refine mm_iadd (pc := 118) dX9_isImage_118 ?_
    refine mm_istore (pc := 119) (lv' := [(5, .int (y4 + 1)), (0, .ref r0), (2, .int y2), (3, .int y3), (4, .int y4)]) dX9_isImage_119 (by decide) rfl ?_
    exact mm_sub [1, 2, 3, 4, 0] rfl h
set_option maxRecDepth 100000 in
set_option maxHeartbeats 4000000 in
theorem lX9_isImage_121 {d : Nat} {r0 : Nat} {n0 : Nat} {x1 : Int32} {x2 : Int32} {M : mm_M} {K : Int32 → mm_M → Prop} {y2 : Int32} {y3 : Int32} {y4 : Int32} {y5 : Int32} (hr0 : mm_SH[r0]? = some (0, n0)) (hG : mm_G M.2.2) (h : if y2 ≤ y5 then (jX9_isImage_109 d r0 n0 x1 x2 M K y2 y3 (y4 + 1)) else (vp_in (2 + (3 * y4)) n0 ∧ if (M.1 r0 (2 + (3 * y4)).toNatClampNeg) = 1 then (vp_in (2 + (3 * y5)) n0 ∧ if (M.1 r0 (2 + (3 * y5)).toNatClampNeg) = 1 then (jX9_isImage_156 d r0 n0 x1 x2 M K y2 y3 y4 y5 1) else (jX9_isImage_156 d r0 n0 x1 x2 M K y2 y3 y4 y5 0)) else (jX9_isImage_156 d r0 n0 x1 x2 M K y2 y3 y4 y5 0))) : jX9_isImage_121 d r0 n0 x1 x2 M K y2 y3 y4 y5 := by
  unfold jX9_isImage_121
  refine mm_iload (pc := 121) (j := 4) dX9_isImage_121 rfl ?_
  refine mm_iload_n (pc := 123) (j := 1) dX9_isImage_123 rfl rfl ?_
  refine mm_icmp_ge (pc := 124) (tgt := 186) dX9_isImage_124 (by decide) (fun hc => ?_) (fun hc => ?_)
  · have h := mm_ift hc h
    refine mm_iinc (pc := 186) (j := 3) (v := y4 + 1) (lv' := [(4, .int (y4 + 1)), (0, .ref r0), (2, .int y2), (3, .int y3), (5, .int y5)]) dX9_isImage_186 rfl rfl (by decide) rfl ?_
    refine mm_goto (pc := 189) (tgt := 109) dX9_isImage_189 (by decide) ?_
    exact mm_sub [1, 2, 3, 0] rfl h
  · have h := mm_iff hc h
    refine mm_aload_n (pc := 127) (j := 0) dX9_isImage_127 rfl rfl ?_
    refine mm_iconst (pc := 128) (x := 2) dX9_isImage_128 rfl ?_
    refine mm_iconst (pc := 129) (x := 3) dX9_isImage_129 rfl ?_
    refine mm_iload (pc := 130) (j := 3) dX9_isImage_130 rfl ?_
    refine mm_imul (pc := 132) dX9_isImage_132 ?_
    refine mm_iadd (pc := 133) dX9_isImage_133 ?_
    obtain ⟨hi134, h⟩ := h
    refine mm_iaload (pc := 134) (N := n0) dX9_isImage_134 hr0 hi134 ?_
    refine mm_iconst (pc := 135) (x := 1) dX9_isImage_135 rfl ?_
    refine mm_icmp_ne (pc := 136) (tgt := 155) dX9_isImage_136 (by decide) (fun hc => ?_) (fun hc => ?_)
    · have h := mm_iff hc h
      refine mm_iconst (pc := 155) (x := 0) dX9_isImage_155 rfl ?_
      exact h
    · have h := mm_ift hc h
      refine mm_aload_n (pc := 139) (j := 0) dX9_isImage_139 rfl rfl ?_
      refine mm_iconst (pc := 140) (x := 2) dX9_isImage_140 rfl ?_
      refine mm_iconst (pc := 141) (x := 3) dX9_isImage_141 rfl ?_
      refine mm_iload (pc := 142) (j := 4) dX9_isImage_142 rfl ?_
      refine mm_imul (pc := 144) dX9_isImage_144 ?_
      refine mm_iadd (pc := 145) dX9_isImage_145 ?_
      obtain ⟨hi146, h⟩ := h
      refine mm_iaload (pc := 146) (N := n0) dX9_isImage_146 hr0 hi146 ?_
      refine mm_iconst (pc := 147) (x := 1) dX9_isImage_147 rfl ?_
      refine mm_icmp_ne (pc := 148) (tgt := 155) dX9_isImage_148 (by decide) (fun hc => ?_) (fun hc => ?_)
      · have h := mm_iff hc h
        refine mm_iconst (pc := 155) (x := 0) dX9_isImage_155 rfl ?_
        exact h
      · have h := mm_ift hc h
        refine mm_iconst (pc := 151) (x := 1) dX9_isImage_151 rfl ?_
        refine mm_goto (pc := 152) (tgt := 156) dX9_isImage_152 (by decide) ?_
        exact h
set_option maxRecDepth 100000 in
set_option maxHeartbeats 4000000 in
theorem lX9_isImage_156 {d : Nat} {r0 : Nat} {n0 : Nat} {x1 : Int32} {x2 : Int32} {M : mm_M} {K : Int32 → mm_M → Prop} {y2 : Int32} {y3 : Int32} {y4 : Int32} {y5 : Int32} {u0 : Int32} (hr0 : mm_SH[r0]? = some (0, n0)) (hG : mm_G M.2.2) (h : vp_in y3 n0 ∧ if u0 = 0 then (if (M.1 r0 y3.toNatClampNeg) ≤ 0 then (jX9_isImage_121 d r0 n0 x1 x2 M K y2 (y3 + 1) y4 (y5 + 1)) else (K 0 M)) else (if (M.1 r0 y3.toNatClampNeg) ≤ 99 then (jX9_isImage_121 d r0 n0 x1 x2 M K y2 (y3 + 1) y4 (y5 + 1)) else (K 0 M))) : jX9_isImage_156 d r0 n0 x1 x2 M K y2 y3 y4 y5 u0 := by
  unfold jX9_isImage_156
  refine mm_istore (pc := 156) (lv' := [(6, .int u0), (0, .ref r0), (2, .int y2), (3, .int y3), (4, .int y4), (5, .int y5)]) dX9_isImage_156 (by decide) rfl ?_
  refine mm_aload_n (pc := 158) (j := 1) dX9_isImage_158 rfl rfl ?_
  refine mm_iload_n (pc := 159) (j := 3) dX9_isImage_159 rfl rfl ?_
  obtain ⟨hi160, h⟩ := h
  refine mm_iaload (pc := 160) (N := n0) dX9_isImage_160 hr0 hi160 ?_
  refine mm_iload (pc := 161) (j := 0) dX9_isImage_161 rfl ?_
  refine mm_if_eq (pc := 163) (tgt := 171) dX9_isImage_163 (by decide) (fun hc => ?_) (fun hc => ?_)
  · have h := mm_ift hc h
    refine mm_iconst (pc := 171) (x := 0) dX9_isImage_171 rfl ?_
    refine mm_icmp_le (pc := 172) (tgt := 177) dX9_isImage_172 (by decide) (fun hc => ?_) (fun hc => ?_)
    · have h := mm_ift hc h
      refine mm_iinc (pc := 177) (j := 3) (v := y3 + 1) (lv' := [(3, .int (y3 + 1)), (6, .int u0), (0, .ref r0), (2, .int y2), (4, .int y4), (5, .int y5)]) dX9_isImage_177 rfl rfl (by decide) rfl ?_
      refine mm_iinc (pc := 180) (j := 5) (v := y5 + 1) (lv' := [(5, .int (y5 + 1)), (3, .int (y3 + 1)), (6, .int u0), (0, .ref r0), (2, .int y2), (4, .int y4)]) dX9_isImage_180 rfl rfl (by decide) rfl ?_
      refine mm_goto (pc := 183) (tgt := 121) dX9_isImage_183 (by decide) ?_
      exact mm_sub [3, 4, 1, 5, 0] rfl h
    · have h := mm_iff hc h
      refine mm_iconst (pc := 175) (x := 0) dX9_isImage_175 rfl ?_
      exact mm_zret (pc := 176) dX9_isImage_176 rfl rfl (Nat.le_refl 0) (Nat.le_refl 0) ⟨_, rfl, rfl, hG, h⟩
  · have h := mm_iff hc h
    refine mm_bipush (pc := 166) (x := 99) dX9_isImage_166 rfl ?_
    refine mm_goto (pc := 168) (tgt := 172) dX9_isImage_168 (by decide) ?_
    refine mm_icmp_le (pc := 172) (tgt := 177) dX9_isImage_172 (by decide) (fun hc => ?_) (fun hc => ?_)
    · have h := mm_ift hc h
      refine mm_iinc (pc := 177) (j := 3) (v := y3 + 1) (lv' := [(3, .int (y3 + 1)), (6, .int u0), (0, .ref r0), (2, .int y2), (4, .int y4), (5, .int y5)]) dX9_isImage_177 rfl rfl (by decide) rfl ?_
      refine mm_iinc (pc := 180) (j := 5) (v := y5 + 1) (lv' := [(5, .int (y5 + 1)), (3, .int (y3 + 1)), (6, .int u0), (0, .ref r0), (2, .int y2), (4, .int y4)]) dX9_isImage_180 rfl rfl (by decide) rfl ?_
      refine mm_goto (pc := 183) (tgt := 121) dX9_isImage_183 (by decide) ?_
      exact mm_sub [3, 4, 1, 5, 0] rfl h
    · have h := mm_iff hc h
      refine mm_iconst (pc := 175) (x := 0) dX9_isImage_175 rfl ?_
      exact mm_zret (pc := 176) dX9_isImage_176 rfl rfl (Nat.le_refl 0) (Nat.le_refl 0) ⟨_, rfl, rfl, hG, h⟩
def jX9_readImage_46 (d : Nat) (a : Nat) (r1 : Nat) (n1 : Nat) (x2 : Int32) (M : mm_M) (K : mm_M → Prop) (y2 : Int32) (y3 : Int32) (y4 : Int32) : Prop := mm_W mX9_readImage (d + 1) 0 0 46 [(0, .ref a), (1, .ref r1), (2, .int y2), (3, .int y3), (4, .int y4)] [] mm_SH M 0 0 (mm_PV K)
def jX9_readImage_103 (d : Nat) (a : Nat) (r1 : Nat) (n1 : Nat) (x2 : Int32) (M : mm_M) (K : mm_M → Prop) (y2 : Int32) (y3 : Int32) (y4 : Int32) : Prop := mm_W mX9_readImage (d + 1) 0 0 103 [(0, .ref a), (1, .ref r1), (2, .int y2), (3, .int y3), (4, .int y4)] [] mm_SH M 0 0 (mm_PV K)
def jX9_readImage_115 (d : Nat) (a : Nat) (r1 : Nat) (n1 : Nat) (x2 : Int32) (M : mm_M) (K : mm_M → Prop) (y2 : Int32) (y3 : Int32) (y4 : Int32) (y5 : Int32) : Prop := mm_W mX9_readImage (d + 1) 0 0 115 [(0, .ref a), (1, .ref r1), (2, .int y2), (3, .int y3), (4, .int y4), (5, .int y5)] [] mm_SH M 0 0 (mm_PV K)
set_option maxRecDepth 100000 in
set_option maxHeartbeats 4000000 in
theorem rX9_readImage {d : Nat} {a : Nat} {r1 : Nat} {n1 : Nat} {x2 : Int32} {M : mm_M} {K : mm_M → Prop} (ha : a ∈ mm_Sts) (hr1 : mm_SH[r1]? = some (0, n1)) (hG : mm_G M.2.2) (h : mm_CI mX9_imageLength d [.int x2] M (fun z1 m1 => if (nI n1) < z1 then (K m1) else (if x2 ≤ 7 then (vp_in 0 n1 ∧ vp_in 1 n1 ∧ jX9_readImage_46 d a r1 n1 x2 (mm_uI (mm_uI (mm_uI m1 a 0 (((m1.1 r1 (0 : Int32).toNatClampNeg) * 256) + (m1.1 r1 (1 : Int32).toNatClampNeg))) a 1 0) a 2 0) K x2 2 0) else (K m1)))) : mm_CV mX9_readImage (d + 1) [.ref a, .ref r1, .int x2] M K := by
  show mm_W mX9_readImage (d + 1) 0 0 0 [(0, .ref a), (1, .ref r1), (2, .int x2)] [] mm_SH M 0 0 (mm_PV K)
  refine mm_iload_n (pc := 0) (j := 2) dX9_readImage_0 rfl rfl ?_
  refine mm_kSI (pc := 1) [.int x2] dX9_readImage_1 kX9_75 rfl (Nat.le_of_ble_eq_true rfl) (Nat.le_of_ble_eq_true rfl) h (fun z1 m1 hG h => ?_)
  refine mm_aload_n (pc := 4) (j := 1) dX9_readImage_4 rfl rfl ?_
  refine mm_alen (pc := 5) (t := 0) (N := n1) dX9_readImage_5 hr1 (by decide) ?_
  refine mm_icmp_gt (pc := 6) (tgt := 15) dX9_readImage_6 (by decide) (fun hc => ?_) (fun hc => ?_)
  · have h := mm_ift hc h
    exact mm_vret (pc := 15) dX9_readImage_15 rfl (Nat.le_refl 0) (Nat.le_refl 0) ⟨rfl, rfl, hG, h⟩
  · have h := mm_iff hc h
    refine mm_iload_n (pc := 9) (j := 2) dX9_readImage_9 rfl rfl ?_
    refine mm_bipush (pc := 10) (x := 7) dX9_readImage_10 rfl ?_
    refine mm_icmp_le (pc := 12) (tgt := 16) dX9_readImage_12 (by decide) (fun hc => ?_) (fun hc => ?_)
    · have h := mm_ift hc h
      refine mm_aload_n (pc := 16) (j := 0) dX9_readImage_16 rfl rfl ?_
      refine mm_aload_n (pc := 17) (j := 1) dX9_readImage_17 rfl rfl ?_
      refine mm_iconst (pc := 18) (x := 0) dX9_readImage_18 rfl ?_
      obtain ⟨hi19, h⟩ := h
      refine mm_iaload (pc := 19) (N := n1) dX9_readImage_19 hr1 hi19 ?_
      refine mm_sipush (pc := 20) (x := 256) dX9_readImage_20 rfl ?_
      refine mm_imul (pc := 23) dX9_readImage_23 ?_
      refine mm_aload_n (pc := 24) (j := 1) dX9_readImage_24 rfl rfl ?_
      refine mm_iconst (pc := 25) (x := 1) dX9_readImage_25 rfl ?_
      obtain ⟨hi26, h⟩ := h
      refine mm_iaload (pc := 26) (N := n1) dX9_readImage_26 hr1 hi26 ?_
      refine mm_iadd (pc := 27) dX9_readImage_27 ?_
      refine mm_putI (pc := 28) (ci := 9) (N := 7) dX9_readImage_28 fX9_24 (sh_St ha) (by decide +kernel) rfl rfl rfl ?_
      refine mm_aload_n (pc := 31) (j := 0) dX9_readImage_31 rfl rfl ?_
      refine mm_iconst (pc := 32) (x := 0) dX9_readImage_32 rfl ?_
      refine mm_putI (pc := 33) (ci := 9) (N := 7) dX9_readImage_33 fX9_33 (sh_St ha) (by decide +kernel) rfl rfl rfl ?_
      refine mm_aload_n (pc := 36) (j := 0) dX9_readImage_36 rfl rfl ?_
      refine mm_iconst (pc := 37) (x := 0) dX9_readImage_37 rfl ?_
      refine mm_putI (pc := 38) (ci := 9) (N := 7) dX9_readImage_38 fX9_36 (sh_St ha) (by decide +kernel) rfl rfl rfl ?_
      refine mm_iconst (pc := 41) (x := 2) dX9_readImage_41 rfl ?_
      refine mm_istore_n (pc := 42) (lv' := [(3, .int 2), (0, .ref a), (1, .ref r1), (2, .int x2)]) dX9_readImage_42 rfl (by decide) rfl ?_
      refine mm_iconst (pc := 43) (x := 0) dX9_readImage_43 rfl ?_
      refine mm_istore (pc := 44) (lv' := [(4, .int 0), (3, .int 2), (0, .ref a), (1, .ref r1), (2, .int x2)]) dX9_readImage_44 (by decide) rfl ?_
      exact mm_sub [2, 3, 4, 1, 0] rfl h
    · have h := mm_iff hc h
      exact mm_vret (pc := 15) dX9_readImage_15 rfl (Nat.le_refl 0) (Nat.le_refl 0) ⟨rfl, rfl, hG, h⟩
set_option maxRecDepth 100000 in
set_option maxHeartbeats 4000000 in
theorem lX9_readImage_46 {d : Nat} {a : Nat} {r1 : Nat} {n1 : Nat} {x2 : Int32} {M : mm_M} {K : mm_M → Prop} {y2 : Int32} {y3 : Int32} {y4 : Int32} (ha : a ∈ mm_Sts) (hr1 : mm_SH[r1]? = some (0, n1)) (hG : mm_G M.2.2) (h : if y2 ≤ y4 then (jX9_readImage_103 d a r1 n1 x2 M K y2 y3 0) else (vp_in y3 n1 ∧ vp_in (y3 + 1) n1 ∧ vp_in y4 7 ∧ vp_in (y3 + 2) n1 ∧ vp_in y4 7 ∧ jX9_readImage_46 d a r1 n1 x2 (mm_uI (mm_uI (mm_uI M a 1 ((M.1 a 1) ||| ((M.1 r1 y3.toNatClampNeg) <<< (y4 &&& 31)))) (a + 1) y4.toNatClampNeg ((mm_uI M a 1 ((M.1 a 1) ||| ((M.1 r1 y3.toNatClampNeg) <<< (y4 &&& 31)))).1 r1 (y3 + 1).toNatClampNeg)) (a + 2) y4.toNatClampNeg ((mm_uI (mm_uI M a 1 ((M.1 a 1) ||| ((M.1 r1 y3.toNatClampNeg) <<< (y4 &&& 31)))) (a + 1) y4.toNatClampNeg ((mm_uI M a 1 ((M.1 a 1) ||| ((M.1 r1 y3.toNatClampNeg) <<< (y4 &&& 31)))).1 r1 (y3 + 1).toNatClampNeg)).1 r1 (y3 + 2).toNatClampNeg)) K y2 (y3 + 3) (y4 + 1))) : jX9_readImage_46 d a r1 n1 x2 M K y2 y3 y4 := by
  unfold jX9_readImage_46
  refine mm_iload (pc := 46) (j := 4) dX9_readImage_46 rfl ?_
  refine mm_iload_n (pc := 48) (j := 2) dX9_readImage_48 rfl rfl ?_
  refine mm_icmp_ge (pc := 49) (tgt := 100) dX9_readImage_49 (by decide) (fun hc => ?_) (fun hc => ?_)
  · have h := mm_ift hc h
    refine mm_iconst (pc := 100) (x := 0) dX9_readImage_100 rfl ?_
    refine mm_istore (pc := 101) (lv' := [(4, .int 0), (0, .ref a), (1, .ref r1), (2, .int y2), (3, .int y3)]) dX9_readImage_101 (by decide) rfl ?_
    exact mm_sub [1, 2, 3, 4, 0] rfl h
  · have h := mm_iff hc h
    refine mm_aload_n (pc := 52) (j := 0) dX9_readImage_52 rfl rfl ?_
    refine mm_dup (pc := 53) dX9_readImage_53 rfl ?_
    refine mm_getI (pc := 54) (ci := 9) (N := 7) dX9_readImage_54 fX9_33 (sh_St ha) rfl ?_
    refine mm_aload_n (pc := 57) (j := 1) dX9_readImage_57 rfl rfl ?_
    refine mm_iload_n (pc := 58) (j := 3) dX9_readImage_58 rfl rfl ?_
    obtain ⟨hi59, h⟩ := h
    refine mm_iaload (pc := 59) (N := n1) dX9_readImage_59 hr1 hi59 ?_
    refine mm_iload (pc := 60) (j := 4) dX9_readImage_60 rfl ?_
    refine mm_ishl (pc := 62) dX9_readImage_62 ?_
    refine mm_ior (pc := 63) dX9_readImage_63 ?_
    refine mm_putI (pc := 64) (ci := 9) (N := 7) dX9_readImage_64 fX9_33 (sh_St ha) (by decide +kernel) rfl rfl rfl ?_
    refine mm_aload_n (pc := 67) (j := 0) dX9_readImage_67 rfl rfl ?_
    refine mm_getR (pc := 68) (ci := 9) (N := 7) (r := a + 1) dX9_readImage_68 fX9_9 (sh_St ha) rfl (g_St_3 hG ha) ?_
    refine mm_iload (pc := 71) (j := 4) dX9_readImage_71 rfl ?_
    refine mm_aload_n (pc := 73) (j := 1) dX9_readImage_73 rfl rfl ?_
    refine mm_iload_n (pc := 74) (j := 3) dX9_readImage_74 rfl rfl ?_
    refine mm_iconst (pc := 75) (x := 1) dX9_readImage_75 rfl ?_
    refine mm_iadd (pc := 76) dX9_readImage_76 ?_
    obtain ⟨hi77, h⟩ := h
    refine mm_iaload (pc := 77) (N := n1) dX9_readImage_77 hr1 hi77 ?_
    obtain ⟨hi78, h⟩ := h
    refine mm_iastore (pc := 78) (N := 7) dX9_readImage_78 (sh_St_1 ha) hi78 ?_
    refine mm_aload_n (pc := 79) (j := 0) dX9_readImage_79 rfl rfl ?_
    refine mm_getR (pc := 80) (ci := 9) (N := 7) (r := a + 2) dX9_readImage_80 fX9_15 (sh_St ha) rfl (g_St_4 hG ha) ?_
    refine mm_iload (pc := 83) (j := 4) dX9_readImage_83 rfl ?_
    refine mm_aload_n (pc := 85) (j := 1) dX9_readImage_85 rfl rfl ?_
    refine mm_iload_n (pc := 86) (j := 3) dX9_readImage_86 rfl rfl ?_
    refine mm_iconst (pc := 87) (x := 2) dX9_readImage_87 rfl ?_
    refine mm_iadd (pc := 88) dX9_readImage_88 ?_
    obtain ⟨hi89, h⟩ := h
    refine mm_iaload (pc := 89) (N := n1) dX9_readImage_89 hr1 hi89 ?_
    obtain ⟨hi90, h⟩ := h
    refine mm_iastore (pc := 90) (N := 7) dX9_readImage_90 (sh_St_2 ha) hi90 ?_
    refine mm_iinc (pc := 91) (j := 3) (v := y3 + 3) (lv' := [(3, .int (y3 + 3)), (0, .ref a), (1, .ref r1), (2, .int y2), (4, .int y4)]) dX9_readImage_91 rfl rfl (by decide) rfl ?_
    refine mm_iinc (pc := 94) (j := 4) (v := y4 + 1) (lv' := [(4, .int (y4 + 1)), (3, .int (y3 + 3)), (0, .ref a), (1, .ref r1), (2, .int y2)]) dX9_readImage_94 rfl rfl (by decide) rfl ?_
    refine mm_goto (pc := 97) (tgt := 46) dX9_readImage_97 (by decide) ?_
    exact mm_sub [2, 3, 4, 1, 0] rfl h
set_option maxRecDepth 100000 in
set_option maxHeartbeats 4000000 in
theorem lX9_readImage_103 {d : Nat} {a : Nat} {r1 : Nat} {n1 : Nat} {x2 : Int32} {M : mm_M} {K : mm_M → Prop} {y2 : Int32} {y3 : Int32} {y4 : Int32} (ha : a ∈ mm_Sts) (hr1 : mm_SH[r1]? = some (0, n1)) (hG : mm_G M.2.2) (h : if y2 ≤ y4 then (K M) else (jX9_readImage_115 d a r1 n1 x2 M K y2 y3 y4 (y4 + 1))) : jX9_readImage_103 d a r1 n1 x2 M K y2 y3 y4 := by
  unfold jX9_readImage_103
  refine mm_iload (pc := 103) (j := 4) dX9_readImage_103 rfl ?_
  refine mm_iload_n (pc := 105) (j := 2) dX9_readImage_105 rfl rfl ?_
  refine mm_icmp_ge (pc := 106) (tgt := 147) dX9_readImage_106 (by decide) (fun hc => ?_) (fun hc => ?_)
  · have h := mm_ift hc h
    exact mm_vret (pc := 147) dX9_readImage_147 rfl (Nat.le_refl 0) (Nat.le_refl 0) ⟨rfl, rfl, hG, h⟩
  · have h := mm_iff hc h
    refine mm_iload (pc := 109) (j := 4) dX9_readImage_109 rfl ?_
    refine mm_iconst (pc := 111) (x := 1) dX9_readImage_111 rfl ?_
    refine mm_iadd (pc := 112) dX9_readImage_112 ?_
    refine mm_istore (pc := 113) (lv' := [(5, .int (y4 + 1)), (0, .ref a), (1, .ref r1), (2, .int y2), (3, .int y3), (4, .int y4)]) dX9_readImage_113 (by decide) rfl ?_
    exact mm_sub [1, 2, 3, 4, 5, 0] rfl h
set_option maxRecDepth 100000 in
set_option maxHeartbeats 4000000 in
theorem lX9_readImage_115 {d : Nat} {a : Nat} {r1 : Nat} {n1 : Nat} {x2 : Int32} {M : mm_M} {K : mm_M → Prop} {y2 : Int32} {y3 : Int32} {y4 : Int32} {y5 : Int32} (ha : a ∈ mm_Sts) (hr1 : mm_SH[r1]? = some (0, n1)) (hG : mm_G M.2.2) (h : if y2 ≤ y5 then (jX9_readImage_103 d a r1 n1 x2 M K y2 y3 (y4 + 1)) else (vp_in y3 n1 ∧ mm_CV mX9_setHate d [.ref a, .int y4, .int y5, .int (M.1 r1 y3.toNatClampNeg)] M (fun m129 => jX9_readImage_115 d a r1 n1 x2 m129 K y2 (y3 + 1) y4 (y5 + 1)))) : jX9_readImage_115 d a r1 n1 x2 M K y2 y3 y4 y5 := by
  unfold jX9_readImage_115
  refine mm_iload (pc := 115) (j := 5) dX9_readImage_115 rfl ?_
  refine mm_iload_n (pc := 117) (j := 2) dX9_readImage_117 rfl rfl ?_
  refine mm_icmp_ge (pc := 118) (tgt := 141) dX9_readImage_118 (by decide) (fun hc => ?_) (fun hc => ?_)
  · have h := mm_ift hc h
    refine mm_iinc (pc := 141) (j := 4) (v := y4 + 1) (lv' := [(4, .int (y4 + 1)), (0, .ref a), (1, .ref r1), (2, .int y2), (3, .int y3), (5, .int y5)]) dX9_readImage_141 rfl rfl (by decide) rfl ?_
    refine mm_goto (pc := 144) (tgt := 103) dX9_readImage_144 (by decide) ?_
    exact mm_sub [1, 2, 3, 4, 0] rfl h
  · have h := mm_iff hc h
    refine mm_aload_n (pc := 121) (j := 0) dX9_readImage_121 rfl rfl ?_
    refine mm_iload (pc := 122) (j := 4) dX9_readImage_122 rfl ?_
    refine mm_iload (pc := 124) (j := 5) dX9_readImage_124 rfl ?_
    refine mm_aload_n (pc := 126) (j := 1) dX9_readImage_126 rfl rfl ?_
    refine mm_iload_n (pc := 127) (j := 3) dX9_readImage_127 rfl rfl ?_
    obtain ⟨hi128, h⟩ := h
    refine mm_iaload (pc := 128) (N := n1) dX9_readImage_128 hr1 hi128 ?_
    refine mm_kVV (pc := 129) [.int y4, .int y5, .int (M.1 r1 y3.toNatClampNeg)] dX9_readImage_129 kX9_53 rfl (sh_St ha) (Nat.le_of_ble_eq_true rfl) (Nat.le_of_ble_eq_true rfl) h (fun m129 hG h => ?_)
    refine mm_iinc (pc := 132) (j := 3) (v := y3 + 1) (lv' := [(3, .int (y3 + 1)), (0, .ref a), (1, .ref r1), (2, .int y2), (4, .int y4), (5, .int y5)]) dX9_readImage_132 rfl rfl (by decide) rfl ?_
    refine mm_iinc (pc := 135) (j := 5) (v := y5 + 1) (lv' := [(5, .int (y5 + 1)), (3, .int (y3 + 1)), (0, .ref a), (1, .ref r1), (2, .int y2), (4, .int y4)]) dX9_readImage_135 rfl rfl (by decide) rfl ?_
    refine mm_goto (pc := 138) (tgt := 115) dX9_readImage_138 (by decide) ?_
    exact mm_sub [2, 3, 4, 1, 5, 0] rfl h
