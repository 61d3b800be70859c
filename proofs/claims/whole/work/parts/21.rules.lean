set_option maxRecDepth 100000 in
set_option maxHeartbeats 4000000 in
theorem rX7_clear {d : Nat} {a : Nat} {M : mm_M} {K : Int32 → mm_M → Prop} (ha : a ∈ mm_Rls) (hG : mm_G M.2.2) (h : mm_CV mJ7_fill_53178 d [.ref (a + 1), .int 0] (mm_uI (mm_uI (mm_uI (mm_uI M a 0 0) a 1 0) a 2 0) a 3 0) (fun m25 => mm_CV mJ7_fill_53178 d [.ref (a + 2), .int 0] m25 (fun m33 => mm_CV mJ7_fill_53178 d [.ref (a + 3), .int 0] m33 (fun m41 => mm_CV mJ7_fill_53178 d [.ref (a + 4), .int 0] m41 (fun m49 => mm_CV mX7_place d [.ref a, .int 0, .int 0, .int 1] (mm_uI (mm_uI (mm_uI (mm_uI (mm_uI (mm_uI m49 (a + 5) (0).toNatClampNeg 10006) (a + 5) (1).toNatClampNeg 10003) (a + 5) (2).toNatClampNeg 10014) (a + 5) (3).toNatClampNeg 5) (a + 5) (4).toNatClampNeg (-6)) (a + 5) (5).toNatClampNeg 1) (fun m105 => mm_CV mX7_place d [.ref a, .int 1, .int 1, .int 2] m105 (fun m112 => mm_CV mX7_place d [.ref a, .int 2, .int 2, .int 5] m112 (fun m119 => mm_CV mX7_place d [.ref a, .int 3, .int 0, .int 1] m119 (fun m126 => mm_CV mX7_place d [.ref a, .int 4, .int 5, .int 6] m126 (fun m134 => K 6 m134)))))))))) : mm_CI mX7_clear (d + 1) [.ref a] M K := by
  show mm_W mX7_clear (d + 1) 0 0 0 [(0, .ref a)] [] mm_SH M 0 0 (mm_PI K)
  refine mm_aload_n (j := 0) dX7_clear_0 rfl rfl ?_
  refine mm_iconst (x := 0) dX7_clear_1 rfl ?_
  refine mm_putI (ci := 7) (N := 11) dX7_clear_2 fX7_33 (sh_Rl ha) (by decide +kernel) rfl rfl rfl ?_
  refine mm_aload_n (j := 0) dX7_clear_5 rfl rfl ?_
  refine mm_iconst (x := 0) dX7_clear_6 rfl ?_
  refine mm_putI (ci := 7) (N := 11) dX7_clear_7 fX7_37 (sh_Rl ha) (by decide +kernel) rfl rfl rfl ?_
  refine mm_aload_n (j := 0) dX7_clear_10 rfl rfl ?_
  refine mm_iconst (x := 0) dX7_clear_11 rfl ?_
  refine mm_putI (ci := 7) (N := 11) dX7_clear_12 fX7_40 (sh_Rl ha) (by decide +kernel) rfl rfl rfl ?_
  refine mm_aload_n (j := 0) dX7_clear_15 rfl rfl ?_
  refine mm_iconst (x := 0) dX7_clear_16 rfl ?_
  refine mm_putI (ci := 7) (N := 11) dX7_clear_17 fX7_43 (sh_Rl ha) (by decide +kernel) rfl rfl rfl ?_
  refine mm_aload_n (j := 0) dX7_clear_20 rfl rfl ?_
  refine mm_getR (ci := 7) (N := 11) (r := a + 1) dX7_clear_21 fX7_9 (sh_Rl ha) rfl (g_Rl_4 hG ha) ?_
  refine mm_iconst (x := 0) dX7_clear_24 rfl ?_
  refine mm_kSV [.ref (a + 1), .int 0] dX7_clear_25 kX7_46 rfl (by decide) (by decide) h (fun m25 hG h => ?_)
  refine mm_aload_n (j := 0) dX7_clear_28 rfl rfl ?_
  refine mm_getR (ci := 7) (N := 11) (r := a + 2) dX7_clear_29 fX7_15 (sh_Rl ha) rfl (g_Rl_5 hG ha) ?_
  refine mm_iconst (x := 0) dX7_clear_32 rfl ?_
  refine mm_kSV [.ref (a + 2), .int 0] dX7_clear_33 kX7_46 rfl (by decide) (by decide) h (fun m33 hG h => ?_)
  refine mm_aload_n (j := 0) dX7_clear_36 rfl rfl ?_
  refine mm_getR (ci := 7) (N := 11) (r := a + 3) dX7_clear_37 fX7_18 (sh_Rl ha) rfl (g_Rl_6 hG ha) ?_
  refine mm_iconst (x := 0) dX7_clear_40 rfl ?_
  refine mm_kSV [.ref (a + 3), .int 0] dX7_clear_41 kX7_46 rfl (by decide) (by decide) h (fun m41 hG h => ?_)
  refine mm_aload_n (j := 0) dX7_clear_44 rfl rfl ?_
  refine mm_getR (ci := 7) (N := 11) (r := a + 4) dX7_clear_45 fX7_21 (sh_Rl ha) rfl (g_Rl_7 hG ha) ?_
  refine mm_iconst (x := 0) dX7_clear_48 rfl ?_
  refine mm_kSV [.ref (a + 4), .int 0] dX7_clear_49 kX7_46 rfl (by decide) (by decide) h (fun m49 hG h => ?_)
  refine mm_aload_n (j := 0) dX7_clear_52 rfl rfl ?_
  refine mm_getR (ci := 7) (N := 11) (r := a + 5) dX7_clear_53 fX7_24 (sh_Rl ha) rfl (g_Rl_8 hG ha) ?_
  refine mm_iconst (x := 0) dX7_clear_56 rfl ?_
  refine mm_sipush (x := 10006) dX7_clear_57 rfl ?_
  refine mm_iastore (N := 1608) dX7_clear_60 (sh_Rl_5 ha) (by decide) ?_
  refine mm_aload_n (j := 0) dX7_clear_61 rfl rfl ?_
  refine mm_getR (ci := 7) (N := 11) (r := a + 5) dX7_clear_62 fX7_24 (sh_Rl ha) rfl (g_Rl_8 hG ha) ?_
  refine mm_iconst (x := 1) dX7_clear_65 rfl ?_
  refine mm_sipush (x := 10003) dX7_clear_66 rfl ?_
  refine mm_iastore (N := 1608) dX7_clear_69 (sh_Rl_5 ha) (by decide) ?_
  refine mm_aload_n (j := 0) dX7_clear_70 rfl rfl ?_
  refine mm_getR (ci := 7) (N := 11) (r := a + 5) dX7_clear_71 fX7_24 (sh_Rl ha) rfl (g_Rl_8 hG ha) ?_
  refine mm_iconst (x := 2) dX7_clear_74 rfl ?_
  refine mm_sipush (x := 10014) dX7_clear_75 rfl ?_
  refine mm_iastore (N := 1608) dX7_clear_78 (sh_Rl_5 ha) (by decide) ?_
  refine mm_aload_n (j := 0) dX7_clear_79 rfl rfl ?_
  refine mm_getR (ci := 7) (N := 11) (r := a + 5) dX7_clear_80 fX7_24 (sh_Rl ha) rfl (g_Rl_8 hG ha) ?_
  refine mm_iconst (x := 3) dX7_clear_83 rfl ?_
  refine mm_iconst (x := 5) dX7_clear_84 rfl ?_
  refine mm_iastore (N := 1608) dX7_clear_85 (sh_Rl_5 ha) (by decide) ?_
  refine mm_aload_n (j := 0) dX7_clear_86 rfl rfl ?_
  refine mm_getR (ci := 7) (N := 11) (r := a + 5) dX7_clear_87 fX7_24 (sh_Rl ha) rfl (g_Rl_8 hG ha) ?_
  refine mm_iconst (x := 4) dX7_clear_90 rfl ?_
  refine mm_bipush (x := (-6)) dX7_clear_91 rfl ?_
  refine mm_iastore (N := 1608) dX7_clear_93 (sh_Rl_5 ha) (by decide) ?_
  refine mm_aload_n (j := 0) dX7_clear_94 rfl rfl ?_
  refine mm_getR (ci := 7) (N := 11) (r := a + 5) dX7_clear_95 fX7_24 (sh_Rl ha) rfl (g_Rl_8 hG ha) ?_
  refine mm_iconst (x := 5) dX7_clear_98 rfl ?_
  refine mm_iconst (x := 1) dX7_clear_99 rfl ?_
  refine mm_iastore (N := 1608) dX7_clear_100 (sh_Rl_5 ha) (by decide) ?_
  refine mm_aload_n (j := 0) dX7_clear_101 rfl rfl ?_
  refine mm_iconst (x := 0) dX7_clear_102 rfl ?_
  refine mm_iconst (x := 0) dX7_clear_103 rfl ?_
  refine mm_iconst (x := 1) dX7_clear_104 rfl ?_
  refine mm_kVV [.int 0, .int 0, .int 1] dX7_clear_105 kX7_56 rfl (sh_Rl ha) (by decide) (by decide) h (fun m105 hG h => ?_)
  refine mm_aload_n (j := 0) dX7_clear_108 rfl rfl ?_
  refine mm_iconst (x := 1) dX7_clear_109 rfl ?_
  refine mm_iconst (x := 1) dX7_clear_110 rfl ?_
  refine mm_iconst (x := 2) dX7_clear_111 rfl ?_
  refine mm_kVV [.int 1, .int 1, .int 2] dX7_clear_112 kX7_56 rfl (sh_Rl ha) (by decide) (by decide) h (fun m112 hG h => ?_)
  refine mm_aload_n (j := 0) dX7_clear_115 rfl rfl ?_
  refine mm_iconst (x := 2) dX7_clear_116 rfl ?_
  refine mm_iconst (x := 2) dX7_clear_117 rfl ?_
  refine mm_iconst (x := 5) dX7_clear_118 rfl ?_
  refine mm_kVV [.int 2, .int 2, .int 5] dX7_clear_119 kX7_56 rfl (sh_Rl ha) (by decide) (by decide) h (fun m119 hG h => ?_)
  refine mm_aload_n (j := 0) dX7_clear_122 rfl rfl ?_
  refine mm_iconst (x := 3) dX7_clear_123 rfl ?_
  refine mm_iconst (x := 0) dX7_clear_124 rfl ?_
  refine mm_iconst (x := 1) dX7_clear_125 rfl ?_
  refine mm_kVV [.int 3, .int 0, .int 1] dX7_clear_126 kX7_56 rfl (sh_Rl ha) (by decide) (by decide) h (fun m126 hG h => ?_)
  refine mm_aload_n (j := 0) dX7_clear_129 rfl rfl ?_
  refine mm_iconst (x := 4) dX7_clear_130 rfl ?_
  refine mm_iconst (x := 5) dX7_clear_131 rfl ?_
  refine mm_bipush (x := 6) dX7_clear_132 rfl ?_
  refine mm_kVV [.int 4, .int 5, .int 6] dX7_clear_134 kX7_56 rfl (sh_Rl ha) (by decide) (by decide) h (fun m134 hG h => ?_)
  refine mm_bipush (x := 6) dX7_clear_137 rfl ?_
  exact mm_iret dX7_clear_139 rfl (Nat.le_refl 0) (Nat.le_refl 0) ⟨_, rfl, rfl, hG, h⟩
set_option maxRecDepth 100000 in
set_option maxHeartbeats 4000000 in
theorem rX7_place {d : Nat} {a : Nat} {x1 : Int32} {x2 : Int32} {x3 : Int32} {M : mm_M} {K : mm_M → Prop} (ha : a ∈ mm_Rls) (hG : mm_G M.2.2) (h : if x1 < 0 then (K M) else (if 5 ≤ x1 then (K M) else (vp_in x1 5 ∧ vp_in x1 5 ∧ K (mm_uI (mm_uI M (a + 6) (x1).toNatClampNeg x2) (a + 7) (x1).toNatClampNeg x3)))) : mm_CV mX7_place d [.ref a, .int x1, .int x2, .int x3] M K := by
  show mm_W mX7_place d 0 0 0 [(0, .ref a), (1, .int x1), (2, .int x2), (3, .int x3)] [] mm_SH M 0 0 (mm_PV K)
  refine mm_iload_n (j := 1) dX7_place_0 rfl rfl ?_
  refine mm_if_lt (tgt := 23) dX7_place_1 (by decide) (fun hc => ?_) (fun hc => ?_)
  · rw [if_pos hc] at h
    exact mm_vret dX7_place_23 rfl (Nat.le_refl 0) (Nat.le_refl 0) ⟨rfl, rfl, hG, h⟩
  · rw [if_neg hc] at h
    refine mm_iload_n (j := 1) dX7_place_4 rfl rfl ?_
    refine mm_iconst (x := 5) dX7_place_5 rfl ?_
    refine mm_icmp_ge (tgt := 23) dX7_place_6 (by decide) (fun hc => ?_) (fun hc => ?_)
    · rw [if_pos hc] at h
      exact mm_vret dX7_place_23 rfl (Nat.le_refl 0) (Nat.le_refl 0) ⟨rfl, rfl, hG, h⟩
    · rw [if_neg hc] at h
      refine mm_aload_n (j := 0) dX7_place_9 rfl rfl ?_
      refine mm_getR (ci := 7) (N := 11) (r := a + 6) dX7_place_10 fX7_27 (sh_Rl ha) rfl (g_Rl_9 hG ha) ?_
      refine mm_iload_n (j := 1) dX7_place_13 rfl rfl ?_
      refine mm_iload_n (j := 2) dX7_place_14 rfl rfl ?_
      obtain ⟨hi15, h⟩ := h
      refine mm_iastore (N := 5) dX7_place_15 (sh_Rl_6 ha) hi15 ?_
      refine mm_aload_n (j := 0) dX7_place_16 rfl rfl ?_
      refine mm_getR (ci := 7) (N := 11) (r := a + 7) dX7_place_17 fX7_30 (sh_Rl ha) rfl (g_Rl_10 hG ha) ?_
      refine mm_iload_n (j := 1) dX7_place_20 rfl rfl ?_
      refine mm_iload_n (j := 3) dX7_place_21 rfl rfl ?_
      obtain ⟨hi22, h⟩ := h
      refine mm_iastore (N := 5) dX7_place_22 (sh_Rl_7 ha) hi22 ?_
      exact mm_vret dX7_place_23 rfl (Nat.le_refl 0) (Nat.le_refl 0) ⟨rfl, rfl, hG, h⟩
def jX7_houseNamed_3 (d : Nat) (a : Nat) (r1 : Nat) (n1 : Nat) (x2 : Int32) (x3 : Int32) (M : mm_M) (K : Int32 → mm_M → Prop) (y2 : Int32) (y3 : Int32) (y4 : Int32) : Prop := mm_W mX7_houseNamed d 0 0 3 [(0, .ref a), (1, .ref r1), (2, .int y2), (3, .int y3), (4, .int y4)] [] mm_SH M 0 0 (mm_PI K)
def jX7_houseNamed_25 (d : Nat) (a : Nat) (r1 : Nat) (n1 : Nat) (x2 : Int32) (x3 : Int32) (M : mm_M) (K : Int32 → mm_M → Prop) (y2 : Int32) (y3 : Int32) (y4 : Int32) (y5 : Int32) (y6 : Int32) : Prop := mm_W mX7_houseNamed d 0 0 25 [(0, .ref a), (1, .ref r1), (2, .int y2), (3, .int y3), (4, .int y4), (5, .int y5), (6, .int y6)] [] mm_SH M 0 0 (mm_PI K)
def jX7_houseNamed_74 (d : Nat) (a : Nat) (r1 : Nat) (n1 : Nat) (x2 : Int32) (x3 : Int32) (M : mm_M) (K : Int32 → mm_M → Prop) (y2 : Int32) (y3 : Int32) (y4 : Int32) (y6 : Int32) (u0 : Int32) : Prop := mm_W mX7_houseNamed d 0 0 74 [(0, .ref a), (1, .ref r1), (2, .int y2), (3, .int y3), (4, .int y4), (6, .int y6)] [.int u0] mm_SH M 0 0 (mm_PI K)
set_option maxRecDepth 100000 in
set_option maxHeartbeats 4000000 in
theorem rX7_houseNamed {d : Nat} {a : Nat} {r1 : Nat} {n1 : Nat} {x2 : Int32} {x3 : Int32} {M : mm_M} {K : Int32 → mm_M → Prop} (ha : a ∈ mm_Rls) (hr1 : mm_SH[r1]? = some (0, n1)) (hG : mm_G M.2.2) (h : jX7_houseNamed_3 d a r1 n1 x2 x3 M K x2 x3 0) : mm_CI mX7_houseNamed d [.ref a, .ref r1, .int x2, .int x3] M K := by
  show mm_W mX7_houseNamed d 0 0 0 [(0, .ref a), (1, .ref r1), (2, .int x2), (3, .int x3)] [] mm_SH M 0 0 (mm_PI K)
  refine mm_iconst (x := 0) dX7_houseNamed_0 rfl ?_
  refine mm_istore (lv' := [(4, .int 0), (0, .ref a), (1, .ref r1), (2, .int x2), (3, .int x3)]) dX7_houseNamed_1 (by decide) rfl ?_
  exact mm_sub [1, 2, 3, 4, 0] rfl h
set_option maxRecDepth 100000 in
set_option maxHeartbeats 4000000 in
theorem lX7_houseNamed_3 {d : Nat} {a : Nat} {r1 : Nat} {n1 : Nat} {x2 : Int32} {x3 : Int32} {M : mm_M} {K : Int32 → mm_M → Prop} {y2 : Int32} {y3 : Int32} {y4 : Int32} (ha : a ∈ mm_Rls) (hr1 : mm_SH[r1]? = some (0, n1)) (hG : mm_G M.2.2) (h : if (M.1 a 2) ≤ y4 then (K (-1) M) else (if 7 ≤ y4 then (K (-1) M) else (jX7_houseNamed_25 d a r1 n1 x2 x3 M K y2 y3 y4 1 0))) : jX7_houseNamed_3 d a r1 n1 x2 x3 M K y2 y3 y4 := by
  unfold jX7_houseNamed_3
  refine mm_iload (j := 4) dX7_houseNamed_3 rfl ?_
  refine mm_aload_n (j := 0) dX7_houseNamed_5 rfl rfl ?_
  refine mm_getI (ci := 7) (N := 11) dX7_houseNamed_6 fX7_40 (sh_Rl ha) rfl ?_
  refine mm_icmp_ge (tgt := 121) dX7_houseNamed_9 (by decide) (fun hc => ?_) (fun hc => ?_)
  · rw [if_pos hc] at h
    refine mm_iconst (x := (-1)) dX7_houseNamed_121 rfl ?_
    exact mm_iret dX7_houseNamed_122 rfl (Nat.le_refl 0) (Nat.le_refl 0) ⟨_, rfl, rfl, hG, h⟩
  · rw [if_neg hc] at h
    refine mm_iload (j := 4) dX7_houseNamed_12 rfl ?_
    refine mm_bipush (x := 7) dX7_houseNamed_14 rfl ?_
    refine mm_icmp_ge (tgt := 121) dX7_houseNamed_16 (by decide) (fun hc => ?_) (fun hc => ?_)
    · rw [if_pos hc] at h
      refine mm_iconst (x := (-1)) dX7_houseNamed_121 rfl ?_
      exact mm_iret dX7_houseNamed_122 rfl (Nat.le_refl 0) (Nat.le_refl 0) ⟨_, rfl, rfl, hG, h⟩
    · rw [if_neg hc] at h
      refine mm_iconst (x := 1) dX7_houseNamed_19 rfl ?_
      refine mm_istore (lv' := [(5, .int 1), (0, .ref a), (1, .ref r1), (2, .int y2), (3, .int y3), (4, .int y4)]) dX7_houseNamed_20 (by decide) rfl ?_
      refine mm_iconst (x := 0) dX7_houseNamed_22 rfl ?_
      refine mm_istore (lv' := [(6, .int 0), (5, .int 1), (0, .ref a), (1, .ref r1), (2, .int y2), (3, .int y3), (4, .int y4)]) dX7_houseNamed_23 (by decide) rfl ?_
      exact mm_sub [2, 3, 4, 5, 6, 1, 0] rfl h
set_option maxRecDepth 100000 in
set_option maxHeartbeats 4000000 in
theorem lX7_houseNamed_25 {d : Nat} {a : Nat} {r1 : Nat} {n1 : Nat} {x2 : Int32} {x3 : Int32} {M : mm_M} {K : Int32 → mm_M → Prop} {y2 : Int32} {y3 : Int32} {y4 : Int32} {y5 : Int32} {y6 : Int32} (ha : a ∈ mm_Rls) (hr1 : mm_SH[r1]? = some (0, n1)) (hG : mm_G M.2.2) (h : if 6 ≤ y6 then (if y5 = 0 then (jX7_houseNamed_3 d a r1 n1 x2 x3 M K y2 y3 (y4 + 1)) else (K y4 M)) else (if y5 = 0 then (if y5 = 0 then (jX7_houseNamed_3 d a r1 n1 x2 x3 M K y2 y3 (y4 + 1)) else (K y4 M)) else (if (y2 + y6) < 0 then (jX7_houseNamed_74 d a r1 n1 x2 x3 M K y2 y3 y4 y6 0) else (if y3 ≤ (y2 + y6) then (jX7_houseNamed_74 d a r1 n1 x2 x3 M K y2 y3 y4 y6 0) else (if (nI n1) ≤ (y2 + y6) then (jX7_houseNamed_74 d a r1 n1 x2 x3 M K y2 y3 y4 y6 0) else (vp_in (y2 + y6) n1 ∧ jX7_houseNamed_74 d a r1 n1 x2 x3 M K y2 y3 y4 y6 (((M.1 r1 (y2 + y6).toNatClampNeg) - 97) + 1))))))) : jX7_houseNamed_25 d a r1 n1 x2 x3 M K y2 y3 y4 y5 y6 := by
  unfold jX7_houseNamed_25
  refine mm_iload (j := 6) dX7_houseNamed_25 rfl ?_
  refine mm_bipush (x := 6) dX7_houseNamed_27 rfl ?_
  refine mm_icmp_ge (tgt := 107) dX7_houseNamed_29 (by decide) (fun hc => ?_) (fun hc => ?_)
  · rw [if_pos hc] at h
    refine mm_iload (j := 5) dX7_houseNamed_107 rfl ?_
    refine mm_if_eq (tgt := 115) dX7_houseNamed_109 (by decide) (fun hc => ?_) (fun hc => ?_)
    · rw [if_pos hc] at h
      refine mm_iinc (j := 4) (v := y4 + 1) (lv' := [(4, .int (y4 + 1)), (0, .ref a), (1, .ref r1), (2, .int y2), (3, .int y3), (5, .int y5), (6, .int y6)]) dX7_houseNamed_115 rfl rfl (by decide) rfl ?_
      refine mm_goto (tgt := 3) dX7_houseNamed_118 (by decide) ?_
      exact mm_sub [1, 2, 3, 4, 0] rfl h
    · rw [if_neg hc] at h
      refine mm_iload (j := 4) dX7_houseNamed_112 rfl ?_
      exact mm_iret dX7_houseNamed_114 rfl (Nat.le_refl 0) (Nat.le_refl 0) ⟨_, rfl, rfl, hG, h⟩
  · rw [if_neg hc] at h
    refine mm_iload (j := 5) dX7_houseNamed_32 rfl ?_
    refine mm_if_eq (tgt := 107) dX7_houseNamed_34 (by decide) (fun hc => ?_) (fun hc => ?_)
    · rw [if_pos hc] at h
      refine mm_iload (j := 5) dX7_houseNamed_107 rfl ?_
      refine mm_if_eq (tgt := 115) dX7_houseNamed_109 (by decide) (fun hc => ?_) (fun hc => ?_)
      · rw [if_pos hc] at h
        refine mm_iinc (j := 4) (v := y4 + 1) (lv' := [(4, .int (y4 + 1)), (0, .ref a), (1, .ref r1), (2, .int y2), (3, .int y3), (5, .int y5), (6, .int y6)]) dX7_houseNamed_115 rfl rfl (by decide) rfl ?_
        refine mm_goto (tgt := 3) dX7_houseNamed_118 (by decide) ?_
        exact mm_sub [1, 2, 3, 4, 0] rfl h
      · rw [if_neg hc] at h
        refine mm_iload (j := 4) dX7_houseNamed_112 rfl ?_
        exact mm_iret dX7_houseNamed_114 rfl (Nat.le_refl 0) (Nat.le_refl 0) ⟨_, rfl, rfl, hG, h⟩
    · rw [if_neg hc] at h
      refine mm_iload_n (j := 2) dX7_houseNamed_37 rfl rfl ?_
      refine mm_iload (j := 6) dX7_houseNamed_38 rfl ?_
      refine mm_iadd dX7_houseNamed_40 ?_
      refine mm_istore (lv' := [(7, .int (y2 + y6)), (0, .ref a), (1, .ref r1), (2, .int y2), (3, .int y3), (4, .int y4), (5, .int y5), (6, .int y6)]) dX7_houseNamed_41 (by decide) rfl ?_
      refine mm_iload (j := 0) dX7_houseNamed_43 rfl ?_
      refine mm_if_lt (tgt := 73) dX7_houseNamed_45 (by decide) (fun hc => ?_) (fun hc => ?_)
      · rw [if_pos hc] at h
        refine mm_iconst (x := 0) dX7_houseNamed_73 rfl ?_
        exact mm_sub [1, 2, 3, 4, 5, 7] rfl h
      · rw [if_neg hc] at h
        refine mm_iload (j := 0) dX7_houseNamed_48 rfl ?_
        refine mm_iload_n (j := 4) dX7_houseNamed_50 rfl rfl ?_
        refine mm_icmp_ge (tgt := 73) dX7_houseNamed_51 (by decide) (fun hc => ?_) (fun hc => ?_)
        · rw [if_pos hc] at h
          refine mm_iconst (x := 0) dX7_houseNamed_73 rfl ?_
          exact mm_sub [1, 2, 3, 4, 5, 7] rfl h
        · rw [if_neg hc] at h
          refine mm_iload (j := 0) dX7_houseNamed_54 rfl ?_
          refine mm_aload_n (j := 2) dX7_houseNamed_56 rfl rfl ?_
          refine mm_alen (t := 0) (N := n1) dX7_houseNamed_57 hr1 (by decide) ?_
          refine mm_icmp_ge (tgt := 73) dX7_houseNamed_58 (by decide) (fun hc => ?_) (fun hc => ?_)
          · rw [if_pos hc] at h
            refine mm_iconst (x := 0) dX7_houseNamed_73 rfl ?_
            exact mm_sub [1, 2, 3, 4, 5, 7] rfl h
          · rw [if_neg hc] at h
            refine mm_aload_n (j := 2) dX7_houseNamed_61 rfl rfl ?_
            refine mm_iload (j := 0) dX7_houseNamed_62 rfl ?_
            obtain ⟨hi64, h⟩ := h
            refine mm_iaload (N := n1) dX7_houseNamed_64 hr1 hi64 ?_
            refine mm_bipush (x := 97) dX7_houseNamed_65 rfl ?_
            refine mm_isub dX7_houseNamed_67 ?_
            refine mm_iconst (x := 1) dX7_houseNamed_68 rfl ?_
            refine mm_iadd dX7_houseNamed_69 ?_
            refine mm_goto (tgt := 74) dX7_houseNamed_70 (by decide) ?_
            exact mm_sub [1, 2, 3, 4, 5, 7] rfl h
set_option maxRecDepth 100000 in
set_option maxHeartbeats 4000000 in
theorem lX7_houseNamed_74 {d : Nat} {a : Nat} {r1 : Nat} {n1 : Nat} {x2 : Int32} {x3 : Int32} {M : mm_M} {K : Int32 → mm_M → Prop} {y2 : Int32} {y3 : Int32} {y4 : Int32} {y6 : Int32} {u0 : Int32} (ha : a ∈ mm_Rls) (hr1 : mm_SH[r1]? = some (0, n1)) (hG : mm_G M.2.2) (h : vp_in ((y4 * 6) + y6) 42 ∧ if u0 = (M.1 (a + 1) ((y4 * 6) + y6).toNatClampNeg) then (jX7_houseNamed_25 d a r1 n1 x2 x3 M K y2 y3 y4 1 (y6 + 1)) else (jX7_houseNamed_25 d a r1 n1 x2 x3 M K y2 y3 y4 0 (y6 + 1))) : jX7_houseNamed_74 d a r1 n1 x2 x3 M K y2 y3 y4 y6 u0 := by
  unfold jX7_houseNamed_74
  refine mm_istore (lv' := [(8, .int u0), (0, .ref a), (1, .ref r1), (2, .int y2), (3, .int y3), (4, .int y4), (6, .int y6)]) dX7_houseNamed_74 (by decide) rfl ?_
  refine mm_iload (j := 0) dX7_houseNamed_76 rfl ?_
  refine mm_aload_n (j := 1) dX7_houseNamed_78 rfl rfl ?_
  refine mm_getR (ci := 7) (N := 11) (r := a + 1) dX7_houseNamed_79 fX7_9 (sh_Rl ha) rfl (g_Rl_4 hG ha) ?_
  refine mm_iload (j := 5) dX7_houseNamed_82 rfl ?_
  refine mm_bipush (x := 6) dX7_houseNamed_84 rfl ?_
  refine mm_imul dX7_houseNamed_86 ?_
  refine mm_iload (j := 6) dX7_houseNamed_87 rfl ?_
  refine mm_iadd dX7_houseNamed_89 ?_
  obtain ⟨hi90, h⟩ := h
  refine mm_iaload (N := 42) dX7_houseNamed_90 (sh_Rl_1 ha) hi90 ?_
  refine mm_icmp_ne (tgt := 98) dX7_houseNamed_91 (by decide) (fun hc => ?_) (fun hc => ?_)
  · rw [if_neg hc] at h
    refine mm_iconst (x := 0) dX7_houseNamed_98 rfl ?_
    refine mm_istore (lv' := [(5, .int 0), (8, .int u0), (0, .ref a), (1, .ref r1), (2, .int y2), (3, .int y3), (4, .int y4), (6, .int y6)]) dX7_houseNamed_99 (by decide) rfl ?_
    refine mm_iinc (j := 7) (v := y6 + 1) (lv' := [(6, .int (y6 + 1)), (5, .int 0), (8, .int u0), (0, .ref a), (1, .ref r1), (2, .int y2), (3, .int y3), (4, .int y4)]) dX7_houseNamed_101 rfl rfl (by decide) rfl ?_
    refine mm_goto (tgt := 25) dX7_houseNamed_104 (by decide) ?_
    exact mm_sub [3, 4, 5, 6, 7, 1, 0] rfl h
  · rw [if_pos hc] at h
    refine mm_iconst (x := 1) dX7_houseNamed_94 rfl ?_
    refine mm_goto (tgt := 99) dX7_houseNamed_95 (by decide) ?_
    refine mm_istore (lv' := [(5, .int 1), (8, .int u0), (0, .ref a), (1, .ref r1), (2, .int y2), (3, .int y3), (4, .int y4), (6, .int y6)]) dX7_houseNamed_99 (by decide) rfl ?_
    refine mm_iinc (j := 7) (v := y6 + 1) (lv' := [(6, .int (y6 + 1)), (5, .int 1), (8, .int u0), (0, .ref a), (1, .ref r1), (2, .int y2), (3, .int y3), (4, .int y4)]) dX7_houseNamed_101 rfl rfl (by decide) rfl ?_
    refine mm_goto (tgt := 25) dX7_houseNamed_104 (by decide) ?_
    exact mm_sub [3, 4, 5, 6, 7, 1, 0] rfl h
def jX7_nameNext_3 (d : Nat) (a : Nat) (r1 : Nat) (n1 : Nat) (x2 : Int32) (x3 : Int32) (M : mm_M) (K : mm_M → Prop) (y2 : Int32) (y3 : Int32) (y4 : Int32) : Prop := mm_W mX7_nameNext d 0 0 3 [(0, .ref a), (1, .ref r1), (2, .int y2), (3, .int y3), (4, .int y4)] [] mm_SH M 0 0 (mm_PV K)
def jX7_nameNext_55 (d : Nat) (a : Nat) (r1 : Nat) (n1 : Nat) (x2 : Int32) (x3 : Int32) (M : mm_M) (K : mm_M → Prop) (y2 : Int32) (y3 : Int32) (y4 : Int32) (y5 : Int32) (u0 : Int32) : Prop := mm_W mX7_nameNext d 0 0 55 [(0, .ref a), (1, .ref r1), (2, .int y2), (3, .int y3), (4, .int y4), (5, .int y5)] [.int u0] mm_SH M 0 0 (mm_PV K)
set_option maxRecDepth 100000 in
set_option maxHeartbeats 4000000 in
theorem rX7_nameNext {d : Nat} {a : Nat} {r1 : Nat} {n1 : Nat} {x2 : Int32} {x3 : Int32} {M : mm_M} {K : mm_M → Prop} (ha : a ∈ mm_Rls) (hr1 : mm_SH[r1]? = some (0, n1)) (hG : mm_G M.2.2) (h : jX7_nameNext_3 d a r1 n1 x2 x3 M K x2 x3 0) : mm_CV mX7_nameNext d [.ref a, .ref r1, .int x2, .int x3] M K := by
  show mm_W mX7_nameNext d 0 0 0 [(0, .ref a), (1, .ref r1), (2, .int x2), (3, .int x3)] [] mm_SH M 0 0 (mm_PV K)
  refine mm_iconst (x := 0) dX7_nameNext_0 rfl ?_
  refine mm_istore (lv' := [(4, .int 0), (0, .ref a), (1, .ref r1), (2, .int x2), (3, .int x3)]) dX7_nameNext_1 (by decide) rfl ?_
  exact mm_sub [1, 2, 3, 4, 0] rfl h
set_option maxRecDepth 100000 in
set_option maxHeartbeats 4000000 in
theorem lX7_nameNext_3 {d : Nat} {a : Nat} {r1 : Nat} {n1 : Nat} {x2 : Int32} {x3 : Int32} {M : mm_M} {K : mm_M → Prop} {y2 : Int32} {y3 : Int32} {y4 : Int32} (ha : a ∈ mm_Rls) (hr1 : mm_SH[r1]? = some (0, n1)) (hG : mm_G M.2.2) (h : if 6 ≤ y4 then (K M) else (if (M.1 a 2) < 0 then (K M) else (if 7 ≤ (M.1 a 2) then (K M) else (if (y2 + y4) < 0 then (jX7_nameNext_55 d a r1 n1 x2 x3 M K y2 y3 y4 (y2 + y4) 0) else (if y3 ≤ (y2 + y4) then (jX7_nameNext_55 d a r1 n1 x2 x3 M K y2 y3 y4 (y2 + y4) 0) else (if (nI n1) ≤ (y2 + y4) then (jX7_nameNext_55 d a r1 n1 x2 x3 M K y2 y3 y4 (y2 + y4) 0) else (jX7_nameNext_55 d a r1 n1 x2 x3 M K y2 y3 y4 (y2 + y4) 1))))))) : jX7_nameNext_3 d a r1 n1 x2 x3 M K y2 y3 y4 := by
  unfold jX7_nameNext_3
  refine mm_iload (j := 4) dX7_nameNext_3 rfl ?_
  refine mm_bipush (x := 6) dX7_nameNext_5 rfl ?_
  refine mm_icmp_ge (tgt := 96) dX7_nameNext_7 (by decide) (fun hc => ?_) (fun hc => ?_)
  · rw [if_pos hc] at h
    exact mm_vret dX7_nameNext_96 rfl (Nat.le_refl 0) (Nat.le_refl 0) ⟨rfl, rfl, hG, h⟩
  · rw [if_neg hc] at h
    refine mm_aload_n (j := 0) dX7_nameNext_10 rfl rfl ?_
    refine mm_getI (ci := 7) (N := 11) dX7_nameNext_11 fX7_40 (sh_Rl ha) rfl ?_
    refine mm_if_lt (tgt := 96) dX7_nameNext_14 (by decide) (fun hc => ?_) (fun hc => ?_)
    · rw [if_pos hc] at h
      exact mm_vret dX7_nameNext_96 rfl (Nat.le_refl 0) (Nat.le_refl 0) ⟨rfl, rfl, hG, h⟩
    · rw [if_neg hc] at h
      refine mm_aload_n (j := 0) dX7_nameNext_17 rfl rfl ?_
      refine mm_getI (ci := 7) (N := 11) dX7_nameNext_18 fX7_40 (sh_Rl ha) rfl ?_
      refine mm_bipush (x := 7) dX7_nameNext_21 rfl ?_
      refine mm_icmp_ge (tgt := 96) dX7_nameNext_23 (by decide) (fun hc => ?_) (fun hc => ?_)
      · rw [if_pos hc] at h
        exact mm_vret dX7_nameNext_96 rfl (Nat.le_refl 0) (Nat.le_refl 0) ⟨rfl, rfl, hG, h⟩
      · rw [if_neg hc] at h
        refine mm_iload_n (j := 2) dX7_nameNext_26 rfl rfl ?_
        refine mm_iload (j := 4) dX7_nameNext_27 rfl ?_
        refine mm_iadd dX7_nameNext_29 ?_
        refine mm_istore (lv' := [(5, .int (y2 + y4)), (0, .ref a), (1, .ref r1), (2, .int y2), (3, .int y3), (4, .int y4)]) dX7_nameNext_30 (by decide) rfl ?_
        refine mm_iload (j := 0) dX7_nameNext_32 rfl ?_
        refine mm_if_lt (tgt := 54) dX7_nameNext_34 (by decide) (fun hc => ?_) (fun hc => ?_)
        · rw [if_pos hc] at h
          refine mm_iconst (x := 0) dX7_nameNext_54 rfl ?_
          exact mm_sub [1, 2, 3, 4, 5, 0] rfl h
        · rw [if_neg hc] at h
          refine mm_iload (j := 0) dX7_nameNext_37 rfl ?_
          refine mm_iload_n (j := 4) dX7_nameNext_39 rfl rfl ?_
          refine mm_icmp_ge (tgt := 54) dX7_nameNext_40 (by decide) (fun hc => ?_) (fun hc => ?_)
          · rw [if_pos hc] at h
            refine mm_iconst (x := 0) dX7_nameNext_54 rfl ?_
            exact mm_sub [1, 2, 3, 4, 5, 0] rfl h
          · rw [if_neg hc] at h
            refine mm_iload (j := 0) dX7_nameNext_43 rfl ?_
            refine mm_aload_n (j := 2) dX7_nameNext_45 rfl rfl ?_
            refine mm_alen (t := 0) (N := n1) dX7_nameNext_46 hr1 (by decide) ?_
            refine mm_icmp_ge (tgt := 54) dX7_nameNext_47 (by decide) (fun hc => ?_) (fun hc => ?_)
            · rw [if_pos hc] at h
              refine mm_iconst (x := 0) dX7_nameNext_54 rfl ?_
              exact mm_sub [1, 2, 3, 4, 5, 0] rfl h
            · rw [if_neg hc] at h
              refine mm_iconst (x := 1) dX7_nameNext_50 rfl ?_
              refine mm_goto (tgt := 55) dX7_nameNext_51 (by decide) ?_
              exact mm_sub [1, 2, 3, 4, 5, 0] rfl h
set_option maxRecDepth 100000 in
set_option maxHeartbeats 4000000 in
theorem lX7_nameNext_55 {d : Nat} {a : Nat} {r1 : Nat} {n1 : Nat} {x2 : Int32} {x3 : Int32} {M : mm_M} {K : mm_M → Prop} {y2 : Int32} {y3 : Int32} {y4 : Int32} {y5 : Int32} {u0 : Int32} (ha : a ∈ mm_Rls) (hr1 : mm_SH[r1]? = some (0, n1)) (hG : mm_G M.2.2) (h : if u0 = 0 then (vp_in (((M.1 a 2) * 6) + y4) 42 ∧ jX7_nameNext_3 d a r1 n1 x2 x3 (mm_uI M (a + 1) (((M.1 a 2) * 6) + y4).toNatClampNeg 0) K y2 y3 (y4 + 1)) else (vp_in y5 n1 ∧ vp_in (((M.1 a 2) * 6) + y4) 42 ∧ jX7_nameNext_3 d a r1 n1 x2 x3 (mm_uI M (a + 1) (((M.1 a 2) * 6) + y4).toNatClampNeg (((M.1 r1 (y5).toNatClampNeg) - 97) + 1)) K y2 y3 (y4 + 1))) : jX7_nameNext_55 d a r1 n1 x2 x3 M K y2 y3 y4 y5 u0 := by
  unfold jX7_nameNext_55
  refine mm_istore (lv' := [(6, .int u0), (0, .ref a), (1, .ref r1), (2, .int y2), (3, .int y3), (4, .int y4), (5, .int y5)]) dX7_nameNext_55 (by decide) rfl ?_
  refine mm_aload_n (j := 1) dX7_nameNext_57 rfl rfl ?_
  refine mm_getR (ci := 7) (N := 11) (r := a + 1) dX7_nameNext_58 fX7_9 (sh_Rl ha) rfl (g_Rl_4 hG ha) ?_
  refine mm_aload_n (j := 1) dX7_nameNext_61 rfl rfl ?_
  refine mm_getI (ci := 7) (N := 11) dX7_nameNext_62 fX7_40 (sh_Rl ha) rfl ?_
  refine mm_bipush (x := 6) dX7_nameNext_65 rfl ?_
  refine mm_imul dX7_nameNext_67 ?_
  refine mm_iload (j := 5) dX7_nameNext_68 rfl ?_
  refine mm_iadd dX7_nameNext_70 ?_
  refine mm_iload (j := 0) dX7_nameNext_71 rfl ?_
  refine mm_if_eq (tgt := 88) dX7_nameNext_73 (by decide) (fun hc => ?_) (fun hc => ?_)
  · rw [if_pos hc] at h
    refine mm_iconst (x := 0) dX7_nameNext_88 rfl ?_
    obtain ⟨hi89, h⟩ := h
    refine mm_iastore (N := 42) dX7_nameNext_89 (sh_Rl_1 ha) hi89 ?_
    refine mm_iinc (j := 5) (v := y4 + 1) (lv' := [(4, .int (y4 + 1)), (6, .int u0), (0, .ref a), (1, .ref r1), (2, .int y2), (3, .int y3), (5, .int y5)]) dX7_nameNext_90 rfl rfl (by decide) rfl ?_
    refine mm_goto (tgt := 3) dX7_nameNext_93 (by decide) ?_
    exact mm_sub [2, 3, 4, 5, 0] rfl h
  · rw [if_neg hc] at h
    refine mm_aload_n (j := 2) dX7_nameNext_76 rfl rfl ?_
    refine mm_iload (j := 6) dX7_nameNext_77 rfl ?_
    obtain ⟨hi79, h⟩ := h
    refine mm_iaload (N := n1) dX7_nameNext_79 hr1 hi79 ?_
    refine mm_bipush (x := 97) dX7_nameNext_80 rfl ?_
    refine mm_isub dX7_nameNext_82 ?_
    refine mm_iconst (x := 1) dX7_nameNext_83 rfl ?_
    refine mm_iadd dX7_nameNext_84 ?_
    refine mm_goto (tgt := 89) dX7_nameNext_85 (by decide) ?_
    obtain ⟨hi89, h⟩ := h
    refine mm_iastore (N := 42) dX7_nameNext_89 (sh_Rl_1 ha) hi89 ?_
    refine mm_iinc (j := 5) (v := y4 + 1) (lv' := [(4, .int (y4 + 1)), (6, .int u0), (0, .ref a), (1, .ref r1), (2, .int y2), (3, .int y3), (5, .int y5)]) dX7_nameNext_90 rfl rfl (by decide) rfl ?_
    refine mm_goto (tgt := 3) dX7_nameNext_93 (by decide) ?_
    exact mm_sub [2, 3, 4, 5, 0] rfl h
set_option maxRecDepth 100000 in
set_option maxHeartbeats 4000000 in
theorem rX7_addNext {d : Nat} {a : Nat} {x1 : Int32} {x2 : Int32} {M : mm_M} {K : mm_M → Prop} (ha : a ∈ mm_Rls) (hG : mm_G M.2.2) (h : if (M.1 a 2) < 0 then (K M) else (if 7 ≤ (M.1 a 2) then (K M) else (vp_in (M.1 a 2) 7 ∧ vp_in ((mm_uI M (a + 2) (M.1 a 2).toNatClampNeg x1).1 a 2) 7 ∧ K (mm_uI (mm_uI (mm_uI M (a + 2) (M.1 a 2).toNatClampNeg x1) (a + 3) ((mm_uI M (a + 2) (M.1 a 2).toNatClampNeg x1).1 a 2).toNatClampNeg x2) a 2 (((mm_uI (mm_uI M (a + 2) (M.1 a 2).toNatClampNeg x1) (a + 3) ((mm_uI M (a + 2) (M.1 a 2).toNatClampNeg x1).1 a 2).toNatClampNeg x2).1 a 2) + 1))))) : mm_CV mX7_addNext d [.ref a, .int x1, .int x2] M K := by
  show mm_W mX7_addNext d 0 0 0 [(0, .ref a), (1, .int x1), (2, .int x2)] [] mm_SH M 0 0 (mm_PV K)
  refine mm_aload_n (j := 0) dX7_addNext_0 rfl rfl ?_
  refine mm_getI (ci := 7) (N := 11) dX7_addNext_1 fX7_40 (sh_Rl ha) rfl ?_
  refine mm_if_lt (tgt := 46) dX7_addNext_4 (by decide) (fun hc => ?_) (fun hc => ?_)
  · rw [if_pos hc] at h
    exact mm_vret dX7_addNext_46 rfl (Nat.le_refl 0) (Nat.le_refl 0) ⟨rfl, rfl, hG, h⟩
  · rw [if_neg hc] at h
    refine mm_aload_n (j := 0) dX7_addNext_7 rfl rfl ?_
    refine mm_getI (ci := 7) (N := 11) dX7_addNext_8 fX7_40 (sh_Rl ha) rfl ?_
    refine mm_bipush (x := 7) dX7_addNext_11 rfl ?_
    refine mm_icmp_ge (tgt := 46) dX7_addNext_13 (by decide) (fun hc => ?_) (fun hc => ?_)
    · rw [if_pos hc] at h
      exact mm_vret dX7_addNext_46 rfl (Nat.le_refl 0) (Nat.le_refl 0) ⟨rfl, rfl, hG, h⟩
    · rw [if_neg hc] at h
      refine mm_aload_n (j := 0) dX7_addNext_16 rfl rfl ?_
      refine mm_getR (ci := 7) (N := 11) (r := a + 2) dX7_addNext_17 fX7_15 (sh_Rl ha) rfl (g_Rl_5 hG ha) ?_
      refine mm_aload_n (j := 0) dX7_addNext_20 rfl rfl ?_
      refine mm_getI (ci := 7) (N := 11) dX7_addNext_21 fX7_40 (sh_Rl ha) rfl ?_
      refine mm_iload_n (j := 1) dX7_addNext_24 rfl rfl ?_
      obtain ⟨hi25, h⟩ := h
      refine mm_iastore (N := 7) dX7_addNext_25 (sh_Rl_2 ha) hi25 ?_
      refine mm_aload_n (j := 0) dX7_addNext_26 rfl rfl ?_
      refine mm_getR (ci := 7) (N := 11) (r := a + 3) dX7_addNext_27 fX7_18 (sh_Rl ha) rfl (g_Rl_6 hG ha) ?_
      refine mm_aload_n (j := 0) dX7_addNext_30 rfl rfl ?_
      refine mm_getI (ci := 7) (N := 11) dX7_addNext_31 fX7_40 (sh_Rl ha) rfl ?_
      refine mm_iload_n (j := 2) dX7_addNext_34 rfl rfl ?_
      obtain ⟨hi35, h⟩ := h
      refine mm_iastore (N := 7) dX7_addNext_35 (sh_Rl_3 ha) hi35 ?_
      refine mm_aload_n (j := 0) dX7_addNext_36 rfl rfl ?_
      refine mm_dup dX7_addNext_37 rfl ?_
      refine mm_getI (ci := 7) (N := 11) dX7_addNext_38 fX7_40 (sh_Rl ha) rfl ?_
      refine mm_iconst (x := 1) dX7_addNext_41 rfl ?_
      refine mm_iadd dX7_addNext_42 ?_
      refine mm_putI (ci := 7) (N := 11) dX7_addNext_43 fX7_40 (sh_Rl ha) (by decide +kernel) rfl rfl rfl ?_
      exact mm_vret dX7_addNext_46 rfl (Nat.le_refl 0) (Nat.le_refl 0) ⟨rfl, rfl, hG, h⟩
set_option maxRecDepth 100000 in
set_option maxHeartbeats 4000000 in
theorem rX9_begin {d : Nat} {a : Nat} {a1 : Nat} {M : mm_M} {K : mm_M → Prop} (ha : a ∈ mm_Sts) (ha1 : a1 ∈ mm_Rls) (hG : mm_G M.2.2) (h : mm_CV mJ7_fill_53178 d [.ref (a + 2), .int 0] (mm_cp (mm_cp (mm_uI (mm_uI (mm_uI M a 0 0) a 1 ((1 <<< (((mm_uI M a 0 0).1 a1 2) &&& 31)) - 1)) a 2 0) (a1 + 2) (a + 1) (0).toNatClampNeg (0).toNatClampNeg (7).toNatClampNeg) (a1 + 4) (a + 3) (0).toNatClampNeg (0).toNatClampNeg (64).toNatClampNeg) (fun m57 => K m57)) : mm_CV mX9_begin (d + 1) [.ref a, .ref a1] M K := by
  show mm_W mX9_begin (d + 1) 0 0 0 [(0, .ref a), (1, .ref a1)] [] mm_SH M 0 0 (mm_PV K)
  refine mm_aload_n (j := 0) dX9_begin_0 rfl rfl ?_
  refine mm_iconst (x := 0) dX9_begin_1 rfl ?_
  refine mm_putI (ci := 9) (N := 7) dX9_begin_2 fX9_24 (sh_St ha) (by decide +kernel) rfl rfl rfl ?_
  refine mm_aload_n (j := 0) dX9_begin_5 rfl rfl ?_
  refine mm_iconst (x := 1) dX9_begin_6 rfl ?_
  refine mm_aload_n (j := 1) dX9_begin_7 rfl rfl ?_
  refine mm_getI (ci := 7) (N := 11) dX9_begin_8 fX9_28 (sh_Rl ha1) rfl ?_
  refine mm_ishl dX9_begin_11 ?_
  refine mm_iconst (x := 1) dX9_begin_12 rfl ?_
  refine mm_isub dX9_begin_13 ?_
  refine mm_putI (ci := 9) (N := 7) dX9_begin_14 fX9_33 (sh_St ha) (by decide +kernel) rfl rfl rfl ?_
  refine mm_aload_n (j := 0) dX9_begin_17 rfl rfl ?_
  refine mm_iconst (x := 0) dX9_begin_18 rfl ?_
  refine mm_putI (ci := 9) (N := 7) dX9_begin_19 fX9_36 (sh_St ha) (by decide +kernel) rfl rfl rfl ?_
  refine mm_aload_n (j := 1) dX9_begin_22 rfl rfl ?_
  refine mm_getR (ci := 7) (N := 11) (r := a1 + 2) dX9_begin_23 fX9_39 (sh_Rl ha1) rfl (g_Rl_5 hG ha1) ?_
  refine mm_iconst (x := 0) dX9_begin_26 rfl ?_
  refine mm_aload_n (j := 0) dX9_begin_27 rfl rfl ?_
  refine mm_getR (ci := 9) (N := 7) (r := a + 1) dX9_begin_28 fX9_9 (sh_St ha) rfl (g_St_3 hG ha) ?_
  refine mm_iconst (x := 0) dX9_begin_31 rfl ?_
  refine mm_bipush (x := 7) dX9_begin_32 rfl ?_
  refine mm_copy (n0 := 7) (n1 := 7) dX9_begin_34 kX9_40 ac_nat ac_sta ac_ini (sh_Rl_2 ha1) (sh_St_1 ha) (by decide) (by decide) (by decide) (by decide) (by decide) (by decide) ?_
  refine mm_aload_n (j := 1) dX9_begin_37 rfl rfl ?_
  refine mm_getR (ci := 7) (N := 11) (r := a1 + 4) dX9_begin_38 fX9_46 (sh_Rl ha1) rfl (g_Rl_7 hG ha1) ?_
  refine mm_iconst (x := 0) dX9_begin_41 rfl ?_
  refine mm_aload_n (j := 0) dX9_begin_42 rfl rfl ?_
  refine mm_getR (ci := 9) (N := 7) (r := a + 3) dX9_begin_43 fX9_18 (sh_St ha) rfl (g_St_5 hG ha) ?_
  refine mm_iconst (x := 0) dX9_begin_46 rfl ?_
  refine mm_bipush (x := 64) dX9_begin_47 rfl ?_
  refine mm_copy (n0 := 64) (n1 := 64) dX9_begin_49 kX9_40 ac_nat ac_sta ac_ini (sh_Rl_4 ha1) (sh_St_3 ha) (by decide) (by decide) (by decide) (by decide) (by decide) (by decide) ?_
  refine mm_aload_n (j := 0) dX9_begin_52 rfl rfl ?_
  refine mm_getR (ci := 9) (N := 7) (r := a + 2) dX9_begin_53 fX9_15 (sh_St ha) rfl (g_St_4 hG ha) ?_
  refine mm_iconst (x := 0) dX9_begin_56 rfl ?_
  refine mm_kSV [.ref (a + 2), .int 0] dX9_begin_57 kX9_47 rfl (by decide) (by decide) h (fun m57 hG h => ?_)
  exact mm_vret dX9_begin_60 rfl (Nat.le_refl 0) (Nat.le_refl 0) ⟨rfl, rfl, hG, h⟩
set_option maxRecDepth 100000 in
set_option maxHeartbeats 4000000 in
theorem rX9_copyFrom {d : Nat} {a : Nat} {a1 : Nat} {M : mm_M} {K : mm_M → Prop} (ha : a ∈ mm_Sts) (ha1 : a1 ∈ mm_Sts) (hG : mm_G M.2.2) (h : K (mm_cp (mm_cp (mm_cp (mm_cp (mm_uI (mm_uI (mm_uI M a 0 (M.1 a1 0)) a 1 ((mm_uI M a 0 (M.1 a1 0)).1 a1 1)) a 2 ((mm_uI (mm_uI M a 0 (M.1 a1 0)) a 1 ((mm_uI M a 0 (M.1 a1 0)).1 a1 1)).1 a1 2)) (a1 + 1) (a + 1) (0).toNatClampNeg (0).toNatClampNeg (7).toNatClampNeg) (a1 + 2) (a + 2) (0).toNatClampNeg (0).toNatClampNeg (7).toNatClampNeg) (a1 + 3) (a + 3) (0).toNatClampNeg (0).toNatClampNeg (64).toNatClampNeg) (a1 + 4) (a + 4) (0).toNatClampNeg (0).toNatClampNeg (40).toNatClampNeg)) : mm_CV mX9_copyFrom (d + 1) [.ref a, .ref a1] M K := by
  show mm_W mX9_copyFrom (d + 1) 0 0 0 [(0, .ref a), (1, .ref a1)] [] mm_SH M 0 0 (mm_PV K)
  refine mm_aload_n (j := 0) dX9_copyFrom_0 rfl rfl ?_
  refine mm_aload_n (j := 1) dX9_copyFrom_1 rfl rfl ?_
  refine mm_getI (ci := 9) (N := 7) dX9_copyFrom_2 fX9_24 (sh_St ha1) rfl ?_
  refine mm_putI (ci := 9) (N := 7) dX9_copyFrom_5 fX9_24 (sh_St ha) (by decide +kernel) rfl rfl rfl ?_
  refine mm_aload_n (j := 0) dX9_copyFrom_8 rfl rfl ?_
  refine mm_aload_n (j := 1) dX9_copyFrom_9 rfl rfl ?_
  refine mm_getI (ci := 9) (N := 7) dX9_copyFrom_10 fX9_33 (sh_St ha1) rfl ?_
  refine mm_putI (ci := 9) (N := 7) dX9_copyFrom_13 fX9_33 (sh_St ha) (by decide +kernel) rfl rfl rfl ?_
  refine mm_aload_n (j := 0) dX9_copyFrom_16 rfl rfl ?_
  refine mm_aload_n (j := 1) dX9_copyFrom_17 rfl rfl ?_
  refine mm_getI (ci := 9) (N := 7) dX9_copyFrom_18 fX9_36 (sh_St ha1) rfl ?_
  refine mm_putI (ci := 9) (N := 7) dX9_copyFrom_21 fX9_36 (sh_St ha) (by decide +kernel) rfl rfl rfl ?_
  refine mm_aload_n (j := 1) dX9_copyFrom_24 rfl rfl ?_
  refine mm_getR (ci := 9) (N := 7) (r := a1 + 1) dX9_copyFrom_25 fX9_9 (sh_St ha1) rfl (g_St_3 hG ha1) ?_
  refine mm_iconst (x := 0) dX9_copyFrom_28 rfl ?_
  refine mm_aload_n (j := 0) dX9_copyFrom_29 rfl rfl ?_
  refine mm_getR (ci := 9) (N := 7) (r := a + 1) dX9_copyFrom_30 fX9_9 (sh_St ha) rfl (g_St_3 hG ha) ?_
  refine mm_iconst (x := 0) dX9_copyFrom_33 rfl ?_
  refine mm_bipush (x := 7) dX9_copyFrom_34 rfl ?_
  refine mm_copy (n0 := 7) (n1 := 7) dX9_copyFrom_36 kX9_40 ac_nat ac_sta ac_ini (sh_St_1 ha1) (sh_St_1 ha) (by decide) (by decide) (by decide) (by decide) (by decide) (by decide) ?_
  refine mm_aload_n (j := 1) dX9_copyFrom_39 rfl rfl ?_
  refine mm_getR (ci := 9) (N := 7) (r := a1 + 2) dX9_copyFrom_40 fX9_15 (sh_St ha1) rfl (g_St_4 hG ha1) ?_
  refine mm_iconst (x := 0) dX9_copyFrom_43 rfl ?_
  refine mm_aload_n (j := 0) dX9_copyFrom_44 rfl rfl ?_
  refine mm_getR (ci := 9) (N := 7) (r := a + 2) dX9_copyFrom_45 fX9_15 (sh_St ha) rfl (g_St_4 hG ha) ?_
  refine mm_iconst (x := 0) dX9_copyFrom_48 rfl ?_
  refine mm_bipush (x := 7) dX9_copyFrom_49 rfl ?_
  refine mm_copy (n0 := 7) (n1 := 7) dX9_copyFrom_51 kX9_40 ac_nat ac_sta ac_ini (sh_St_2 ha1) (sh_St_2 ha) (by decide) (by decide) (by decide) (by decide) (by decide) (by decide) ?_
  refine mm_aload_n (j := 1) dX9_copyFrom_54 rfl rfl ?_
  refine mm_getR (ci := 9) (N := 7) (r := a1 + 3) dX9_copyFrom_55 fX9_18 (sh_St ha1) rfl (g_St_5 hG ha1) ?_
  refine mm_iconst (x := 0) dX9_copyFrom_58 rfl ?_
  refine mm_aload_n (j := 0) dX9_copyFrom_59 rfl rfl ?_
  refine mm_getR (ci := 9) (N := 7) (r := a + 3) dX9_copyFrom_60 fX9_18 (sh_St ha) rfl (g_St_5 hG ha) ?_
  refine mm_iconst (x := 0) dX9_copyFrom_63 rfl ?_
  refine mm_bipush (x := 64) dX9_copyFrom_64 rfl ?_
  refine mm_copy (n0 := 64) (n1 := 64) dX9_copyFrom_66 kX9_40 ac_nat ac_sta ac_ini (sh_St_3 ha1) (sh_St_3 ha) (by decide) (by decide) (by decide) (by decide) (by decide) (by decide) ?_
  refine mm_aload_n (j := 1) dX9_copyFrom_69 rfl rfl ?_
  refine mm_getR (ci := 9) (N := 7) (r := a1 + 4) dX9_copyFrom_70 fX9_21 (sh_St ha1) rfl (g_St_6 hG ha1) ?_
  refine mm_iconst (x := 0) dX9_copyFrom_73 rfl ?_
  refine mm_aload_n (j := 0) dX9_copyFrom_74 rfl rfl ?_
  refine mm_getR (ci := 9) (N := 7) (r := a + 4) dX9_copyFrom_75 fX9_21 (sh_St ha) rfl (g_St_6 hG ha) ?_
  refine mm_iconst (x := 0) dX9_copyFrom_78 rfl ?_
  refine mm_bipush (x := 40) dX9_copyFrom_79 rfl ?_
  refine mm_copy (n0 := 40) (n1 := 40) dX9_copyFrom_81 kX9_40 ac_nat ac_sta ac_ini (sh_St_4 ha1) (sh_St_4 ha) (by decide) (by decide) (by decide) (by decide) (by decide) (by decide) ?_
  exact mm_vret dX9_copyFrom_84 rfl (Nat.le_refl 0) (Nat.le_refl 0) ⟨rfl, rfl, hG, h⟩
set_option maxRecDepth 100000 in
set_option maxHeartbeats 4000000 in
theorem rX9_isThere {d : Nat} {a : Nat} {x1 : Int32} {M : mm_M} {K : Int32 → mm_M → Prop} (ha : a ∈ mm_Sts) (hG : mm_G M.2.2) (h : if x1 < 0 then (K 0 M) else (if 7 ≤ x1 then (K 0 M) else (if (((M.1 a 1) >>> (x1 &&& 31)) &&& 1) = 0 then (K 0 M) else (K 1 M)))) : mm_CI mX9_isThere d [.ref a, .int x1] M K := by
  show mm_W mX9_isThere d 0 0 0 [(0, .ref a), (1, .int x1)] [] mm_SH M 0 0 (mm_PI K)
  refine mm_iload_n (j := 1) dX9_isThere_0 rfl rfl ?_
  refine mm_if_lt (tgt := 25) dX9_isThere_1 (by decide) (fun hc => ?_) (fun hc => ?_)
  · rw [if_pos hc] at h
    refine mm_iconst (x := 0) dX9_isThere_25 rfl ?_
    exact mm_zret dX9_isThere_26 rfl rfl (Nat.le_refl 0) (Nat.le_refl 0) ⟨_, rfl, rfl, hG, h⟩
  · rw [if_neg hc] at h
    refine mm_iload_n (j := 1) dX9_isThere_4 rfl rfl ?_
    refine mm_bipush (x := 7) dX9_isThere_5 rfl ?_
    refine mm_icmp_ge (tgt := 25) dX9_isThere_7 (by decide) (fun hc => ?_) (fun hc => ?_)
    · rw [if_pos hc] at h
      refine mm_iconst (x := 0) dX9_isThere_25 rfl ?_
      exact mm_zret dX9_isThere_26 rfl rfl (Nat.le_refl 0) (Nat.le_refl 0) ⟨_, rfl, rfl, hG, h⟩
    · rw [if_neg hc] at h
      refine mm_aload_n (j := 0) dX9_isThere_10 rfl rfl ?_
      refine mm_getI (ci := 9) (N := 7) dX9_isThere_11 fX9_33 (sh_St ha) rfl ?_
      refine mm_iload_n (j := 1) dX9_isThere_14 rfl rfl ?_
      refine mm_ishr dX9_isThere_15 ?_
      refine mm_iconst (x := 1) dX9_isThere_16 rfl ?_
      refine mm_iand dX9_isThere_17 ?_
      refine mm_if_eq (tgt := 25) dX9_isThere_18 (by decide) (fun hc => ?_) (fun hc => ?_)
      · rw [if_pos hc] at h
        refine mm_iconst (x := 0) dX9_isThere_25 rfl ?_
        exact mm_zret dX9_isThere_26 rfl rfl (Nat.le_refl 0) (Nat.le_refl 0) ⟨_, rfl, rfl, hG, h⟩
      · rw [if_neg hc] at h
        refine mm_iconst (x := 1) dX9_isThere_21 rfl ?_
        refine mm_goto (tgt := 26) dX9_isThere_22 (by decide) ?_
        exact mm_zret dX9_isThere_26 rfl rfl (Nat.le_refl 0) (Nat.le_refl 0) ⟨_, rfl, rfl, hG, h⟩
set_option maxRecDepth 100000 in
set_option maxHeartbeats 4000000 in
theorem rX9_setHate {d : Nat} {a : Nat} {x1 : Int32} {x2 : Int32} {x3 : Int32} {M : mm_M} {K : mm_M → Prop} (ha : a ∈ mm_Sts) (hG : mm_G M.2.2) (h : if x1 < 0 then (K M) else (if 7 ≤ x1 then (K M) else (if x2 < 0 then (K M) else (if 7 ≤ x2 then (K M) else (vp_in ((8 * x1) + x2) 64 ∧ vp_in ((8 * x2) + x1) 64 ∧ K (mm_uI (mm_uI M (a + 3) ((8 * x1) + x2).toNatClampNeg x3) (a + 3) ((8 * x2) + x1).toNatClampNeg x3)))))) : mm_CV mX9_setHate d [.ref a, .int x1, .int x2, .int x3] M K := by
  show mm_W mX9_setHate d 0 0 0 [(0, .ref a), (1, .int x1), (2, .int x2), (3, .int x3)] [] mm_SH M 0 0 (mm_PV K)
  refine mm_iload_n (j := 1) dX9_setHate_0 rfl rfl ?_
  refine mm_if_lt (tgt := 44) dX9_setHate_1 (by decide) (fun hc => ?_) (fun hc => ?_)
  · rw [if_pos hc] at h
    exact mm_vret dX9_setHate_44 rfl (Nat.le_refl 0) (Nat.le_refl 0) ⟨rfl, rfl, hG, h⟩
  · rw [if_neg hc] at h
    refine mm_iload_n (j := 1) dX9_setHate_4 rfl rfl ?_
    refine mm_bipush (x := 7) dX9_setHate_5 rfl ?_
    refine mm_icmp_ge (tgt := 44) dX9_setHate_7 (by decide) (fun hc => ?_) (fun hc => ?_)
    · rw [if_pos hc] at h
      exact mm_vret dX9_setHate_44 rfl (Nat.le_refl 0) (Nat.le_refl 0) ⟨rfl, rfl, hG, h⟩
    · rw [if_neg hc] at h
      refine mm_iload_n (j := 2) dX9_setHate_10 rfl rfl ?_
      refine mm_if_lt (tgt := 44) dX9_setHate_11 (by decide) (fun hc => ?_) (fun hc => ?_)
      · rw [if_pos hc] at h
        exact mm_vret dX9_setHate_44 rfl (Nat.le_refl 0) (Nat.le_refl 0) ⟨rfl, rfl, hG, h⟩
      · rw [if_neg hc] at h
        refine mm_iload_n (j := 2) dX9_setHate_14 rfl rfl ?_
        refine mm_bipush (x := 7) dX9_setHate_15 rfl ?_
        refine mm_icmp_ge (tgt := 44) dX9_setHate_17 (by decide) (fun hc => ?_) (fun hc => ?_)
        · rw [if_pos hc] at h
          exact mm_vret dX9_setHate_44 rfl (Nat.le_refl 0) (Nat.le_refl 0) ⟨rfl, rfl, hG, h⟩
        · rw [if_neg hc] at h
          refine mm_aload_n (j := 0) dX9_setHate_20 rfl rfl ?_
          refine mm_getR (ci := 9) (N := 7) (r := a + 3) dX9_setHate_21 fX9_18 (sh_St ha) rfl (g_St_5 hG ha) ?_
          refine mm_bipush (x := 8) dX9_setHate_24 rfl ?_
          refine mm_iload_n (j := 1) dX9_setHate_26 rfl rfl ?_
          refine mm_imul dX9_setHate_27 ?_
          refine mm_iload_n (j := 2) dX9_setHate_28 rfl rfl ?_
          refine mm_iadd dX9_setHate_29 ?_
          refine mm_iload_n (j := 3) dX9_setHate_30 rfl rfl ?_
          obtain ⟨hi31, h⟩ := h
          refine mm_iastore (N := 64) dX9_setHate_31 (sh_St_3 ha) hi31 ?_
          refine mm_aload_n (j := 0) dX9_setHate_32 rfl rfl ?_
          refine mm_getR (ci := 9) (N := 7) (r := a + 3) dX9_setHate_33 fX9_18 (sh_St ha) rfl (g_St_5 hG ha) ?_
          refine mm_bipush (x := 8) dX9_setHate_36 rfl ?_
          refine mm_iload_n (j := 2) dX9_setHate_38 rfl rfl ?_
          refine mm_imul dX9_setHate_39 ?_
          refine mm_iload_n (j := 1) dX9_setHate_40 rfl rfl ?_
          refine mm_iadd dX9_setHate_41 ?_
          refine mm_iload_n (j := 3) dX9_setHate_42 rfl rfl ?_
          obtain ⟨hi43, h⟩ := h
          refine mm_iastore (N := 64) dX9_setHate_43 (sh_St_3 ha) hi43 ?_
          exact mm_vret dX9_setHate_44 rfl (Nat.le_refl 0) (Nat.le_refl 0) ⟨rfl, rfl, hG, h⟩
def jX9_bury_16 (d : Nat) (a : Nat) (x1 : Int32) (M : mm_M) (K : mm_M → Prop) (y1 : Int32) (y2 : Int32) : Prop := mm_W mX9_bury (d + 1) 0 0 16 [(0, .ref a), (1, .int y1), (2, .int y2)] [] mm_SH M 0 0 (mm_PV K)
set_option maxRecDepth 100000 in
set_option maxHeartbeats 4000000 in
theorem rX9_bury {d : Nat} {a : Nat} {x1 : Int32} {M : mm_M} {K : mm_M → Prop} (ha : a ∈ mm_Sts) (hG : mm_G M.2.2) (h : jX9_bury_16 d a x1 (mm_uI M a 1 ((M.1 a 1) &&& ((1 <<< (x1 &&& 31)) ^^^ (-1)))) K x1 0) : mm_CV mX9_bury (d + 1) [.ref a, .int x1] M K := by
  show mm_W mX9_bury (d + 1) 0 0 0 [(0, .ref a), (1, .int x1)] [] mm_SH M 0 0 (mm_PV K)
  refine mm_aload_n (j := 0) dX9_bury_0 rfl rfl ?_
  refine mm_dup dX9_bury_1 rfl ?_
  refine mm_getI (ci := 9) (N := 7) dX9_bury_2 fX9_33 (sh_St ha) rfl ?_
  refine mm_iconst (x := 1) dX9_bury_5 rfl ?_
  refine mm_iload_n (j := 1) dX9_bury_6 rfl rfl ?_
  refine mm_ishl dX9_bury_7 ?_
  refine mm_iconst (x := (-1)) dX9_bury_8 rfl ?_
  refine mm_ixor dX9_bury_9 ?_
  refine mm_iand dX9_bury_10 ?_
  refine mm_putI (ci := 9) (N := 7) dX9_bury_11 fX9_33 (sh_St ha) (by decide +kernel) rfl rfl rfl ?_
  refine mm_iconst (x := 0) dX9_bury_14 rfl ?_
  refine mm_istore_n (lv' := [(2, .int 0), (0, .ref a), (1, .int x1)]) dX9_bury_15 rfl (by decide) rfl ?_
  exact mm_sub [1, 2, 0] rfl h
set_option maxRecDepth 100000 in
set_option maxHeartbeats 4000000 in
theorem lX9_bury_16 {d : Nat} {a : Nat} {x1 : Int32} {M : mm_M} {K : mm_M → Prop} {y1 : Int32} {y2 : Int32} (ha : a ∈ mm_Sts) (hG : mm_G M.2.2) (h : if 7 ≤ y2 then (K M) else (mm_CV mX9_setHate d [.ref a, .int y1, .int y2, .int 0] M (fun m26 => jX9_bury_16 d a x1 m26 K y1 (y2 + 1)))) : jX9_bury_16 d a x1 M K y1 y2 := by
  unfold jX9_bury_16
  refine mm_iload_n (j := 2) dX9_bury_16 rfl rfl ?_
  refine mm_bipush (x := 7) dX9_bury_17 rfl ?_
  refine mm_icmp_ge (tgt := 35) dX9_bury_19 (by decide) (fun hc => ?_) (fun hc => ?_)
  · rw [if_pos hc] at h
    exact mm_vret dX9_bury_35 rfl (Nat.le_refl 0) (Nat.le_refl 0) ⟨rfl, rfl, hG, h⟩
  · rw [if_neg hc] at h
    refine mm_aload_n (j := 0) dX9_bury_22 rfl rfl ?_
    refine mm_iload_n (j := 1) dX9_bury_23 rfl rfl ?_
    refine mm_iload_n (j := 2) dX9_bury_24 rfl rfl ?_
    refine mm_iconst (x := 0) dX9_bury_25 rfl ?_
    refine mm_kVV [.int y1, .int y2, .int 0] dX9_bury_26 kX9_53 rfl (sh_St ha) (by decide) (by decide) h (fun m26 hG h => ?_)
    refine mm_iinc (j := 2) (v := y2 + 1) (lv' := [(2, .int (y2 + 1)), (0, .ref a), (1, .int y1)]) dX9_bury_29 rfl rfl (by decide) rfl ?_
    refine mm_goto (tgt := 16) dX9_bury_32 (by decide) ?_
    exact mm_sub [1, 2, 0] rfl h
def jX9_countEnemies_4 (d : Nat) (a : Nat) (x1 : Int32) (M : mm_M) (K : Int32 → mm_M → Prop) (y1 : Int32) (y2 : Int32) (y3 : Int32) : Prop := mm_W mX9_countEnemies d 0 0 4 [(0, .ref a), (1, .int y1), (2, .int y2), (3, .int y3)] [] mm_SH M 0 0 (mm_PI K)
set_option maxRecDepth 100000 in
set_option maxHeartbeats 4000000 in
theorem rX9_countEnemies {d : Nat} {a : Nat} {x1 : Int32} {M : mm_M} {K : Int32 → mm_M → Prop} (ha : a ∈ mm_Sts) (hG : mm_G M.2.2) (h : jX9_countEnemies_4 d a x1 M K x1 0 0) : mm_CI mX9_countEnemies d [.ref a, .int x1] M K := by
  show mm_W mX9_countEnemies d 0 0 0 [(0, .ref a), (1, .int x1)] [] mm_SH M 0 0 (mm_PI K)
  refine mm_iconst (x := 0) dX9_countEnemies_0 rfl ?_
  refine mm_istore_n (lv' := [(2, .int 0), (0, .ref a), (1, .int x1)]) dX9_countEnemies_1 rfl (by decide) rfl ?_
  refine mm_iconst (x := 0) dX9_countEnemies_2 rfl ?_
  refine mm_istore_n (lv' := [(3, .int 0), (2, .int 0), (0, .ref a), (1, .int x1)]) dX9_countEnemies_3 rfl (by decide) rfl ?_
  exact mm_sub [2, 3, 1, 0] rfl h
set_option maxRecDepth 100000 in
set_option maxHeartbeats 4000000 in
theorem lX9_countEnemies_4 {d : Nat} {a : Nat} {x1 : Int32} {M : mm_M} {K : Int32 → mm_M → Prop} {y1 : Int32} {y2 : Int32} {y3 : Int32} (ha : a ∈ mm_Sts) (hG : mm_G M.2.2) (h : if 7 ≤ y3 then (K y2 M) else (if y1 < 0 then (K y2 M) else (if 7 ≤ y1 then (K y2 M) else (vp_in ((8 * y1) + y3) 64 ∧ if (M.1 (a + 3) ((8 * y1) + y3).toNatClampNeg) ≤ 0 then (jX9_countEnemies_4 d a x1 M K y1 y2 (y3 + 1)) else (jX9_countEnemies_4 d a x1 M K y1 (y2 + 1) (y3 + 1)))))) : jX9_countEnemies_4 d a x1 M K y1 y2 y3 := by
  unfold jX9_countEnemies_4
  refine mm_iload_n (j := 3) dX9_countEnemies_4 rfl rfl ?_
  refine mm_bipush (x := 7) dX9_countEnemies_5 rfl ?_
  refine mm_icmp_ge (tgt := 43) dX9_countEnemies_7 (by decide) (fun hc => ?_) (fun hc => ?_)
  · rw [if_pos hc] at h
    refine mm_iload_n (j := 2) dX9_countEnemies_43 rfl rfl ?_
    exact mm_iret dX9_countEnemies_44 rfl (Nat.le_refl 0) (Nat.le_refl 0) ⟨_, rfl, rfl, hG, h⟩
  · rw [if_neg hc] at h
    refine mm_iload_n (j := 1) dX9_countEnemies_10 rfl rfl ?_
    refine mm_if_lt (tgt := 43) dX9_countEnemies_11 (by decide) (fun hc => ?_) (fun hc => ?_)
    · rw [if_pos hc] at h
      refine mm_iload_n (j := 2) dX9_countEnemies_43 rfl rfl ?_
      exact mm_iret dX9_countEnemies_44 rfl (Nat.le_refl 0) (Nat.le_refl 0) ⟨_, rfl, rfl, hG, h⟩
    · rw [if_neg hc] at h
      refine mm_iload_n (j := 1) dX9_countEnemies_14 rfl rfl ?_
      refine mm_bipush (x := 7) dX9_countEnemies_15 rfl ?_
      refine mm_icmp_ge (tgt := 43) dX9_countEnemies_17 (by decide) (fun hc => ?_) (fun hc => ?_)
      · rw [if_pos hc] at h
        refine mm_iload_n (j := 2) dX9_countEnemies_43 rfl rfl ?_
        exact mm_iret dX9_countEnemies_44 rfl (Nat.le_refl 0) (Nat.le_refl 0) ⟨_, rfl, rfl, hG, h⟩
      · rw [if_neg hc] at h
        refine mm_aload_n (j := 0) dX9_countEnemies_20 rfl rfl ?_
        refine mm_getR (ci := 9) (N := 7) (r := a + 3) dX9_countEnemies_21 fX9_18 (sh_St ha) rfl (g_St_5 hG ha) ?_
        refine mm_bipush (x := 8) dX9_countEnemies_24 rfl ?_
        refine mm_iload_n (j := 1) dX9_countEnemies_26 rfl rfl ?_
        refine mm_imul dX9_countEnemies_27 ?_
        refine mm_iload_n (j := 3) dX9_countEnemies_28 rfl rfl ?_
        refine mm_iadd dX9_countEnemies_29 ?_
        obtain ⟨hi30, h⟩ := h
        refine mm_iaload (N := 64) dX9_countEnemies_30 (sh_St_3 ha) hi30 ?_
        refine mm_if_le (tgt := 37) dX9_countEnemies_31 (by decide) (fun hc => ?_) (fun hc => ?_)
        · rw [if_pos hc] at h
          refine mm_iinc (j := 3) (v := y3 + 1) (lv' := [(3, .int (y3 + 1)), (0, .ref a), (1, .int y1), (2, .int y2)]) dX9_countEnemies_37 rfl rfl (by decide) rfl ?_
          refine mm_goto (tgt := 4) dX9_countEnemies_40 (by decide) ?_
          exact mm_sub [1, 2, 3, 0] rfl h
        · rw [if_neg hc] at h
          refine mm_iinc (j := 2) (v := y2 + 1) (lv' := [(2, .int (y2 + 1)), (0, .ref a), (1, .int y1), (3, .int y3)]) dX9_countEnemies_34 rfl rfl (by decide) rfl ?_
          refine mm_iinc (j := 3) (v := y3 + 1) (lv' := [(3, .int (y3 + 1)), (2, .int (y2 + 1)), (0, .ref a), (1, .int y1)]) dX9_countEnemies_37 rfl rfl (by decide) rfl ?_
          refine mm_goto (tgt := 4) dX9_countEnemies_40 (by decide) ?_
          exact mm_sub [2, 3, 1, 0] rfl h
def jX9_countFeuds_4 (d : Nat) (a : Nat) (M : mm_M) (K : Int32 → mm_M → Prop) (y1 : Int32) (y2 : Int32) : Prop := mm_W mX9_countFeuds (d + 1) 0 0 4 [(0, .ref a), (1, .int y1), (2, .int y2)] [] mm_SH M 0 0 (mm_PI K)
set_option maxRecDepth 100000 in
set_option maxHeartbeats 4000000 in
theorem rX9_countFeuds {d : Nat} {a : Nat} {M : mm_M} {K : Int32 → mm_M → Prop} (ha : a ∈ mm_Sts) (hG : mm_G M.2.2) (h : jX9_countFeuds_4 d a M K 0 0) : mm_CI mX9_countFeuds (d + 1) [.ref a] M K := by
  show mm_W mX9_countFeuds (d + 1) 0 0 0 [(0, .ref a)] [] mm_SH M 0 0 (mm_PI K)
  refine mm_iconst (x := 0) dX9_countFeuds_0 rfl ?_
  refine mm_istore_n (lv' := [(1, .int 0), (0, .ref a)]) dX9_countFeuds_1 rfl (by decide) rfl ?_
  refine mm_iconst (x := 0) dX9_countFeuds_2 rfl ?_
  refine mm_istore_n (lv' := [(2, .int 0), (1, .int 0), (0, .ref a)]) dX9_countFeuds_3 rfl (by decide) rfl ?_
  exact mm_sub [2, 1, 0] rfl h
set_option maxRecDepth 100000 in
set_option maxHeartbeats 4000000 in
theorem lX9_countFeuds_4 {d : Nat} {a : Nat} {M : mm_M} {K : Int32 → mm_M → Prop} {y1 : Int32} {y2 : Int32} (ha : a ∈ mm_Sts) (hG : mm_G M.2.2) (h : if 7 ≤ y2 then (K (y1 / 2) M) else (mm_CI mX9_countEnemies d [.ref a, .int y2] M (fun z13 m13 => jX9_countFeuds_4 d a m13 K (y1 + z13) (y2 + 1)))) : jX9_countFeuds_4 d a M K y1 y2 := by
  unfold jX9_countFeuds_4
  refine mm_iload_n (j := 2) dX9_countFeuds_4 rfl rfl ?_
  refine mm_bipush (x := 7) dX9_countFeuds_5 rfl ?_
  refine mm_icmp_ge (tgt := 24) dX9_countFeuds_7 (by decide) (fun hc => ?_) (fun hc => ?_)
  · rw [if_pos hc] at h
    refine mm_iload_n (j := 1) dX9_countFeuds_24 rfl rfl ?_
    refine mm_iconst (x := 2) dX9_countFeuds_25 rfl ?_
    refine mm_idiv dX9_countFeuds_26 (by decide) ?_
    exact mm_iret dX9_countFeuds_27 rfl (Nat.le_refl 0) (Nat.le_refl 0) ⟨_, rfl, rfl, hG, h⟩
  · rw [if_neg hc] at h
    refine mm_iload_n (j := 1) dX9_countFeuds_10 rfl rfl ?_
    refine mm_aload_n (j := 0) dX9_countFeuds_11 rfl rfl ?_
    refine mm_iload_n (j := 2) dX9_countFeuds_12 rfl rfl ?_
    refine mm_kVI [.int y2] dX9_countFeuds_13 kX9_57 rfl (sh_St ha) (by decide) (by decide) h (fun z13 m13 hG h => ?_)
    refine mm_iadd dX9_countFeuds_16 ?_
    refine mm_istore_n (lv' := [(1, .int (y1 + z13)), (0, .ref a), (2, .int y2)]) dX9_countFeuds_17 rfl (by decide) rfl ?_
    refine mm_iinc (j := 2) (v := y2 + 1) (lv' := [(2, .int (y2 + 1)), (1, .int (y1 + z13)), (0, .ref a)]) dX9_countFeuds_18 rfl rfl (by decide) rfl ?_
    refine mm_goto (tgt := 4) dX9_countFeuds_21 (by decide) ?_
    exact mm_sub [2, 1, 0] rfl h
def jX9_flourTogether_4 (d : Nat) (a : Nat) (M : mm_M) (K : Int32 → mm_M → Prop) (y1 : Int32) (y2 : Int32) : Prop := mm_W mX9_flourTogether (d + 1) 0 0 4 [(0, .ref a), (1, .int y1), (2, .int y2)] [] mm_SH M 0 0 (mm_PI K)
set_option maxRecDepth 100000 in
set_option maxHeartbeats 4000000 in
theorem rX9_flourTogether {d : Nat} {a : Nat} {M : mm_M} {K : Int32 → mm_M → Prop} (ha : a ∈ mm_Sts) (hG : mm_G M.2.2) (h : jX9_flourTogether_4 d a M K 0 0) : mm_CI mX9_flourTogether (d + 1) [.ref a] M K := by
  show mm_W mX9_flourTogether (d + 1) 0 0 0 [(0, .ref a)] [] mm_SH M 0 0 (mm_PI K)
  refine mm_iconst (x := 0) dX9_flourTogether_0 rfl ?_
  refine mm_istore_n (lv' := [(1, .int 0), (0, .ref a)]) dX9_flourTogether_1 rfl (by decide) rfl ?_
  refine mm_iconst (x := 0) dX9_flourTogether_2 rfl ?_
  refine mm_istore_n (lv' := [(2, .int 0), (1, .int 0), (0, .ref a)]) dX9_flourTogether_3 rfl (by decide) rfl ?_
  exact mm_sub [2, 1, 0] rfl h
set_option maxRecDepth 100000 in
set_option maxHeartbeats 4000000 in
theorem lX9_flourTogether_4 {d : Nat} {a : Nat} {M : mm_M} {K : Int32 → mm_M → Prop} {y1 : Int32} {y2 : Int32} (ha : a ∈ mm_Sts) (hG : mm_G M.2.2) (h : if 7 ≤ y2 then (K y1 M) else (mm_CI mX9_isThere d [.ref a, .int y2] M (fun z12 m12 => if z12 = 0 then (jX9_flourTogether_4 d a m12 K y1 (y2 + 1)) else (vp_in y2 7 ∧ jX9_flourTogether_4 d a m12 K (y1 + (m12.1 (a + 1) (y2).toNatClampNeg)) (y2 + 1))))) : jX9_flourTogether_4 d a M K y1 y2 := by
  unfold jX9_flourTogether_4
  refine mm_iload_n (j := 2) dX9_flourTogether_4 rfl rfl ?_
  refine mm_bipush (x := 7) dX9_flourTogether_5 rfl ?_
  refine mm_icmp_ge (tgt := 33) dX9_flourTogether_7 (by decide) (fun hc => ?_) (fun hc => ?_)
  · rw [if_pos hc] at h
    refine mm_iload_n (j := 1) dX9_flourTogether_33 rfl rfl ?_
    exact mm_iret dX9_flourTogether_34 rfl (Nat.le_refl 0) (Nat.le_refl 0) ⟨_, rfl, rfl, hG, h⟩
  · rw [if_neg hc] at h
    refine mm_aload_n (j := 0) dX9_flourTogether_10 rfl rfl ?_
    refine mm_iload_n (j := 2) dX9_flourTogether_11 rfl rfl ?_
    refine mm_kVI [.int y2] dX9_flourTogether_12 kX9_61 rfl (sh_St ha) (by decide) (by decide) h (fun z12 m12 hG h => ?_)
    refine mm_if_eq (tgt := 27) dX9_flourTogether_15 (by decide) (fun hc => ?_) (fun hc => ?_)
    · rw [if_pos hc] at h
      refine mm_iinc (j := 2) (v := y2 + 1) (lv' := [(2, .int (y2 + 1)), (0, .ref a), (1, .int y1)]) dX9_flourTogether_27 rfl rfl (by decide) rfl ?_
      refine mm_goto (tgt := 4) dX9_flourTogether_30 (by decide) ?_
      exact mm_sub [1, 2, 0] rfl h
    · rw [if_neg hc] at h
      refine mm_iload_n (j := 1) dX9_flourTogether_18 rfl rfl ?_
      refine mm_aload_n (j := 0) dX9_flourTogether_19 rfl rfl ?_
      refine mm_getR (ci := 9) (N := 7) (r := a + 1) dX9_flourTogether_20 fX9_9 (sh_St ha) rfl (g_St_3 hG ha) ?_
      refine mm_iload_n (j := 2) dX9_flourTogether_23 rfl rfl ?_
      obtain ⟨hi24, h⟩ := h
      refine mm_iaload (N := 7) dX9_flourTogether_24 (sh_St_1 ha) hi24 ?_
      refine mm_iadd dX9_flourTogether_25 ?_
      refine mm_istore_n (lv' := [(1, .int (y1 + (m12.1 (a + 1) (y2).toNatClampNeg))), (0, .ref a), (2, .int y2)]) dX9_flourTogether_26 rfl (by decide) rfl ?_
      refine mm_iinc (j := 2) (v := y2 + 1) (lv' := [(2, .int (y2 + 1)), (1, .int (y1 + (m12.1 (a + 1) (y2).toNatClampNeg))), (0, .ref a)]) dX9_flourTogether_27 rfl rfl (by decide) rfl ?_
      refine mm_goto (tgt := 4) dX9_flourTogether_30 (by decide) ?_
      exact mm_sub [2, 1, 0] rfl h
set_option maxRecDepth 100000 in
set_option maxHeartbeats 4000000 in
theorem rX9_keep {d : Nat} {a : Nat} {x1 : Int32} {x2 : Int32} {x3 : Int32} {M : mm_M} {K : mm_M → Prop} (ha : a ∈ mm_Sts) (hG : mm_G M.2.2) (h : if ((M.1 a 2) - (M.1 a 2) / 40 * 40) < 0 then (K M) else (vp_in ((M.1 a 2) - (M.1 a 2) / 40 * 40) 40 ∧ K (mm_uI (mm_uI M (a + 4) ((M.1 a 2) - (M.1 a 2) / 40 * 40).toNatClampNeg (((((((M.1 a 0) * 8) + x1) * 8) + x2) * 128) + x3)) a 2 (((mm_uI M (a + 4) ((M.1 a 2) - (M.1 a 2) / 40 * 40).toNatClampNeg (((((((M.1 a 0) * 8) + x1) * 8) + x2) * 128) + x3)).1 a 2) + 1)))) : mm_CV mX9_keep d [.ref a, .int x1, .int x2, .int x3] M K := by
  show mm_W mX9_keep d 0 0 0 [(0, .ref a), (1, .int x1), (2, .int x2), (3, .int x3)] [] mm_SH M 0 0 (mm_PV K)
  refine mm_aload_n (j := 0) dX9_keep_0 rfl rfl ?_
  refine mm_getI (ci := 9) (N := 7) dX9_keep_1 fX9_36 (sh_St ha) rfl ?_
  refine mm_bipush (x := 40) dX9_keep_4 rfl ?_
  refine mm_irem dX9_keep_6 (by decide) ?_
  refine mm_istore (lv' := [(4, .int ((M.1 a 2) - (M.1 a 2) / 40 * 40)), (0, .ref a), (1, .int x1), (2, .int x2), (3, .int x3)]) dX9_keep_7 (by decide) rfl ?_
  refine mm_iload (j := 0) dX9_keep_9 rfl ?_
  refine mm_if_lt (tgt := 51) dX9_keep_11 (by decide) (fun hc => ?_) (fun hc => ?_)
  · rw [if_pos hc] at h
    exact mm_vret dX9_keep_51 rfl (Nat.le_refl 0) (Nat.le_refl 0) ⟨rfl, rfl, hG, h⟩
  · rw [if_neg hc] at h
    refine mm_aload_n (j := 1) dX9_keep_14 rfl rfl ?_
    refine mm_getR (ci := 9) (N := 7) (r := a + 4) dX9_keep_15 fX9_21 (sh_St ha) rfl (g_St_6 hG ha) ?_
    refine mm_iload (j := 0) dX9_keep_18 rfl ?_
    refine mm_aload_n (j := 1) dX9_keep_20 rfl rfl ?_
    refine mm_getI (ci := 9) (N := 7) dX9_keep_21 fX9_24 (sh_St ha) rfl ?_
    refine mm_bipush (x := 8) dX9_keep_24 rfl ?_
    refine mm_imul dX9_keep_26 ?_
    refine mm_iload_n (j := 2) dX9_keep_27 rfl rfl ?_
    refine mm_iadd dX9_keep_28 ?_
    refine mm_bipush (x := 8) dX9_keep_29 rfl ?_
    refine mm_imul dX9_keep_31 ?_
    refine mm_iload_n (j := 3) dX9_keep_32 rfl rfl ?_
    refine mm_iadd dX9_keep_33 ?_
    refine mm_sipush (x := 128) dX9_keep_34 rfl ?_
    refine mm_imul dX9_keep_37 ?_
    refine mm_iload_n (j := 4) dX9_keep_38 rfl rfl ?_
    refine mm_iadd dX9_keep_39 ?_
    obtain ⟨hi40, h⟩ := h
    refine mm_iastore (N := 40) dX9_keep_40 (sh_St_4 ha) hi40 ?_
    refine mm_aload_n (j := 1) dX9_keep_41 rfl rfl ?_
    refine mm_dup dX9_keep_42 rfl ?_
    refine mm_getI (ci := 9) (N := 7) dX9_keep_43 fX9_36 (sh_St ha) rfl ?_
    refine mm_iconst (x := 1) dX9_keep_46 rfl ?_
    refine mm_iadd dX9_keep_47 ?_
    refine mm_putI (ci := 9) (N := 7) dX9_keep_48 fX9_36 (sh_St ha) (by decide +kernel) rfl rfl rfl ?_
    exact mm_vret dX9_keep_51 rfl (Nat.le_refl 0) (Nat.le_refl 0) ⟨rfl, rfl, hG, h⟩
set_option maxRecDepth 100000 in
set_option maxHeartbeats 4000000 in
theorem rX9_toldLoaves {d : Nat} {a : Nat} {M : mm_M} {K : Int32 → mm_M → Prop} (ha : a ∈ mm_Sts) (hG : mm_G M.2.2) (h : K (if 40 < (M.1 a 2) then 40 else (M.1 a 2)) M) : mm_CI mX9_toldLoaves (d + 1) [.ref a] M K := by
  show mm_W mX9_toldLoaves (d + 1) 0 0 0 [(0, .ref a)] [] mm_SH M 0 0 (mm_PI K)
  refine mm_aload_n (j := 0) dX9_toldLoaves_0 rfl rfl ?_
  refine mm_getI (ci := 9) (N := 7) dX9_toldLoaves_1 fX9_36 (sh_St ha) rfl ?_
  refine mm_bipush (x := 40) dX9_toldLoaves_4 rfl ?_
  refine mm_mmin dX9_toldLoaves_6 kX9_65 ma_min_s ma_ini ma_min_c (by decide) (Nat.le_refl 0) (Nat.le_refl 0) ?_
  exact mm_iret dX9_toldLoaves_9 rfl (Nat.le_refl 0) (Nat.le_refl 0) ⟨_, rfl, rfl, hG, h⟩
def jX9_toldOfLoaf_43 (d : Nat) (a : Nat) (x1 : Int32) (x2 : Int32) (M : mm_M) (K : Int32 → mm_M → Prop) (y2 : Int32) (u0 : Int32) : Prop := mm_W mX9_toldOfLoaf (d + 1) 0 0 43 [(2, .int y2)] [.int u0] mm_SH M 0 0 (mm_PI K)
set_option maxRecDepth 100000 in
set_option maxHeartbeats 4000000 in
theorem rX9_toldOfLoaf {d : Nat} {a : Nat} {x1 : Int32} {x2 : Int32} {M : mm_M} {K : Int32 → mm_M → Prop} (ha : a ∈ mm_Sts) (hG : mm_G M.2.2) (h : if x1 < 0 then (K (-1) M) else (mm_CI mX9_toldLoaves d [.ref a] M (fun z6 m6 => if x1 < z6 then (mm_CI mX9_toldLoaves d [.ref a] m6 (fun z19 m19 => if ((((m6.1 a 2) - z19) + x1) - (((m6.1 a 2) - z19) + x1) / 40 * 40) < 0 then (jX9_toldOfLoaf_43 d a x1 x2 m19 K x2 0) else (vp_in ((((m6.1 a 2) - z19) + x1) - (((m6.1 a 2) - z19) + x1) / 40 * 40) 40 ∧ jX9_toldOfLoaf_43 d a x1 x2 m19 K x2 (m19.1 (a + 4) ((((m6.1 a 2) - z19) + x1) - (((m6.1 a 2) - z19) + x1) / 40 * 40).toNatClampNeg)))) else (K (-1) m6)))) : mm_CI mX9_toldOfLoaf (d + 1) [.ref a, .int x1, .int x2] M K := by
  show mm_W mX9_toldOfLoaf (d + 1) 0 0 0 [(0, .ref a), (1, .int x1), (2, .int x2)] [] mm_SH M 0 0 (mm_PI K)
  refine mm_iload_n (j := 1) dX9_toldOfLoaf_0 rfl rfl ?_
  refine mm_if_lt (tgt := 12) dX9_toldOfLoaf_1 (by decide) (fun hc => ?_) (fun hc => ?_)
  · rw [if_pos hc] at h
    refine mm_iconst (x := (-1)) dX9_toldOfLoaf_12 rfl ?_
    exact mm_iret dX9_toldOfLoaf_13 rfl (Nat.le_refl 0) (Nat.le_refl 0) ⟨_, rfl, rfl, hG, h⟩
  · rw [if_neg hc] at h
    refine mm_iload_n (j := 1) dX9_toldOfLoaf_4 rfl rfl ?_
    refine mm_aload_n (j := 0) dX9_toldOfLoaf_5 rfl rfl ?_
    refine mm_kVI [] dX9_toldOfLoaf_6 kX9_71 rfl (sh_St ha) (by decide) (by decide) h (fun z6 m6 hG h => ?_)
    refine mm_icmp_lt (tgt := 14) dX9_toldOfLoaf_9 (by decide) (fun hc => ?_) (fun hc => ?_)
    · rw [if_pos hc] at h
      refine mm_aload_n (j := 0) dX9_toldOfLoaf_14 rfl rfl ?_
      refine mm_getI (ci := 9) (N := 7) dX9_toldOfLoaf_15 fX9_36 (sh_St ha) rfl ?_
      refine mm_aload_n (j := 0) dX9_toldOfLoaf_18 rfl rfl ?_
      refine mm_kVI [] dX9_toldOfLoaf_19 kX9_71 rfl (sh_St ha) (by decide) (by decide) h (fun z19 m19 hG h => ?_)
      refine mm_isub dX9_toldOfLoaf_22 ?_
      refine mm_iload_n (j := 1) dX9_toldOfLoaf_23 rfl rfl ?_
      refine mm_iadd dX9_toldOfLoaf_24 ?_
      refine mm_bipush (x := 40) dX9_toldOfLoaf_25 rfl ?_
      refine mm_irem dX9_toldOfLoaf_27 (by decide) ?_
      refine mm_istore_n (lv' := [(3, .int ((((m6.1 a 2) - z19) + x1) - (((m6.1 a 2) - z19) + x1) / 40 * 40)), (0, .ref a), (1, .int x1), (2, .int x2)]) dX9_toldOfLoaf_28 rfl (by decide) rfl ?_
      refine mm_iload_n (j := 0) dX9_toldOfLoaf_29 rfl rfl ?_
      refine mm_if_lt (tgt := 42) dX9_toldOfLoaf_30 (by decide) (fun hc => ?_) (fun hc => ?_)
      · rw [if_pos hc] at h
        refine mm_iconst (x := 0) dX9_toldOfLoaf_42 rfl ?_
        exact mm_sub [3] rfl h
      · rw [if_neg hc] at h
        refine mm_aload_n (j := 1) dX9_toldOfLoaf_33 rfl rfl ?_
        refine mm_getR (ci := 9) (N := 7) (r := a + 4) dX9_toldOfLoaf_34 fX9_21 (sh_St ha) rfl (g_St_6 hG ha) ?_
        refine mm_iload_n (j := 0) dX9_toldOfLoaf_37 rfl rfl ?_
        obtain ⟨hi38, h⟩ := h
        refine mm_iaload (N := 40) dX9_toldOfLoaf_38 (sh_St_4 ha) hi38 ?_
        refine mm_goto (tgt := 43) dX9_toldOfLoaf_39 (by decide) ?_
        exact mm_sub [3] rfl h
    · rw [if_neg hc] at h
      refine mm_iconst (x := (-1)) dX9_toldOfLoaf_12 rfl ?_
      exact mm_iret dX9_toldOfLoaf_13 rfl (Nat.le_refl 0) (Nat.le_refl 0) ⟨_, rfl, rfl, hG, h⟩
set_option maxRecDepth 100000 in
set_option maxHeartbeats 4000000 in
theorem lX9_toldOfLoaf_43 {d : Nat} {a : Nat} {x1 : Int32} {x2 : Int32} {M : mm_M} {K : Int32 → mm_M → Prop} {y2 : Int32} {u0 : Int32} (ha : a ∈ mm_Sts) (hG : mm_G M.2.2) (h : if y2 = 0 then (K (u0 / 8192) M) else (if y2 = 1 then (K ((u0 / 1024) - (u0 / 1024) / 8 * 8) M) else (if y2 = 2 then (K ((u0 / 128) - (u0 / 128) / 8 * 8) M) else (if y2 = 3 then (K (u0 - u0 / 128 * 128) M) else (K (-1) M))))) : jX9_toldOfLoaf_43 d a x1 x2 M K y2 u0 := by
  unfold jX9_toldOfLoaf_43
  refine mm_istore (lv' := [(4, .int u0), (2, .int y2)]) dX9_toldOfLoaf_43 (by decide) rfl ?_
  refine mm_iload_n (j := 1) dX9_toldOfLoaf_45 rfl rfl ?_
  by_cases hs46_0 : y2 = 0
  · rw [if_pos hs46_0] at h
    refine mm_tableIn (off := 30) (tgt := 76) dX9_toldOfLoaf_46 (by rw [hs46_0]; decide) (by rw [hs46_0]; decide) (by rw [hs46_0]; rfl) (by decide) ?_
    refine mm_iload (j := 0) dX9_toldOfLoaf_76 rfl ?_
    refine mm_sipush (x := 8192) dX9_toldOfLoaf_78 rfl ?_
    refine mm_idiv dX9_toldOfLoaf_81 (by decide) ?_
    exact mm_iret dX9_toldOfLoaf_82 rfl (Nat.le_refl 0) (Nat.le_refl 0) ⟨_, rfl, rfl, hG, h⟩
  · rw [if_neg hs46_0] at h
    by_cases hs46_1 : y2 = 1
    · rw [if_pos hs46_1] at h
      refine mm_tableIn (off := 37) (tgt := 83) dX9_toldOfLoaf_46 (by rw [hs46_1]; decide) (by rw [hs46_1]; decide) (by rw [hs46_1]; rfl) (by decide) ?_
      refine mm_iload (j := 0) dX9_toldOfLoaf_83 rfl ?_
      refine mm_sipush (x := 1024) dX9_toldOfLoaf_85 rfl ?_
      refine mm_idiv dX9_toldOfLoaf_88 (by decide) ?_
      refine mm_bipush (x := 8) dX9_toldOfLoaf_89 rfl ?_
      refine mm_irem dX9_toldOfLoaf_91 (by decide) ?_
      exact mm_iret dX9_toldOfLoaf_92 rfl (Nat.le_refl 0) (Nat.le_refl 0) ⟨_, rfl, rfl, hG, h⟩
    · rw [if_neg hs46_1] at h
      by_cases hs46_2 : y2 = 2
      · rw [if_pos hs46_2] at h
        refine mm_tableIn (off := 47) (tgt := 93) dX9_toldOfLoaf_46 (by rw [hs46_2]; decide) (by rw [hs46_2]; decide) (by rw [hs46_2]; rfl) (by decide) ?_
        refine mm_iload (j := 0) dX9_toldOfLoaf_93 rfl ?_
        refine mm_sipush (x := 128) dX9_toldOfLoaf_95 rfl ?_
        refine mm_idiv dX9_toldOfLoaf_98 (by decide) ?_
        refine mm_bipush (x := 8) dX9_toldOfLoaf_99 rfl ?_
        refine mm_irem dX9_toldOfLoaf_101 (by decide) ?_
        exact mm_iret dX9_toldOfLoaf_102 rfl (Nat.le_refl 0) (Nat.le_refl 0) ⟨_, rfl, rfl, hG, h⟩
      · rw [if_neg hs46_2] at h
        by_cases hs46_3 : y2 = 3
        · rw [if_pos hs46_3] at h
          refine mm_tableIn (off := 57) (tgt := 103) dX9_toldOfLoaf_46 (by rw [hs46_3]; decide) (by rw [hs46_3]; decide) (by rw [hs46_3]; rfl) (by decide) ?_
          refine mm_iload (j := 0) dX9_toldOfLoaf_103 rfl ?_
          refine mm_sipush (x := 128) dX9_toldOfLoaf_105 rfl ?_
          refine mm_irem dX9_toldOfLoaf_108 (by decide) ?_
          exact mm_iret dX9_toldOfLoaf_109 rfl (Nat.le_refl 0) (Nat.le_refl 0) ⟨_, rfl, rfl, hG, h⟩
        · rw [if_neg hs46_3] at h
          have ht46_0 := lv_neT hs46_0 (show (0 : Int32).toInt = 0 from rfl)
          have ht46_1 := lv_neT hs46_1 (show (1 : Int32).toInt = 1 from rfl)
          have ht46_2 := lv_neT hs46_2 (show (2 : Int32).toInt = 2 from rfl)
          have ht46_3 := lv_neT hs46_3 (show (3 : Int32).toInt = 3 from rfl)
          refine mm_tableOut (tgt := 110) dX9_toldOfLoaf_46 (by omega) (by decide) ?_
          refine mm_iconst (x := (-1)) dX9_toldOfLoaf_110 rfl ?_
          exact mm_iret dX9_toldOfLoaf_111 rfl (Nat.le_refl 0) (Nat.le_refl 0) ⟨_, rfl, rfl, hG, h⟩
set_option maxRecDepth 100000 in
set_option maxHeartbeats 4000000 in
theorem rX9_imageLength {d : Nat} {x0 : Int32} {M : mm_M} {K : Int32 → mm_M → Prop} (hG : mm_G M.2.2) (h : K (((2 + (3 * x0)) + ((x0 * (x0 - 1)) / 2)) + 1) M) : mm_CI mX9_imageLength d [.int x0] M K := by
  show mm_W mX9_imageLength d 0 0 0 [(0, .int x0)] [] mm_SH M 0 0 (mm_PI K)
  refine mm_iconst (x := 2) dX9_imageLength_0 rfl ?_
  refine mm_iconst (x := 3) dX9_imageLength_1 rfl ?_
  refine mm_iload_n (j := 0) dX9_imageLength_2 rfl rfl ?_
  refine mm_imul dX9_imageLength_3 ?_
  refine mm_iadd dX9_imageLength_4 ?_
  refine mm_iload_n (j := 0) dX9_imageLength_5 rfl rfl ?_
  refine mm_iload_n (j := 0) dX9_imageLength_6 rfl rfl ?_
  refine mm_iconst (x := 1) dX9_imageLength_7 rfl ?_
  refine mm_isub dX9_imageLength_8 ?_
  refine mm_imul dX9_imageLength_9 ?_
  refine mm_iconst (x := 2) dX9_imageLength_10 rfl ?_
  refine mm_idiv dX9_imageLength_11 (by decide) ?_
  refine mm_iadd dX9_imageLength_12 ?_
  refine mm_iconst (x := 1) dX9_imageLength_13 rfl ?_
  refine mm_iadd dX9_imageLength_14 ?_
  exact mm_iret dX9_imageLength_15 rfl (Nat.le_refl 0) (Nat.le_refl 0) ⟨_, rfl, rfl, hG, h⟩
def jX9_checkByte_6 (d : Nat) (r0 : Nat) (n0 : Nat) (x1 : Int32) (M : mm_M) (K : Int32 → mm_M → Prop) (y1 : Int32) (y2 : Int32) (y3 : Int32) : Prop := mm_W mX9_checkByte d 0 0 6 [(0, .ref r0), (1, .int y1), (2, .int y2), (3, .int y3)] [] mm_SH M 0 0 (mm_PI K)
set_option maxRecDepth 100000 in
set_option maxHeartbeats 4000000 in
theorem rX9_checkByte {d : Nat} {r0 : Nat} {n0 : Nat} {x1 : Int32} {M : mm_M} {K : Int32 → mm_M → Prop} (hr0 : mm_SH[r0]? = some (0, n0)) (hG : mm_G M.2.2) (h : jX9_checkByte_6 d r0 n0 x1 M K x1 233 0) : mm_CI mX9_checkByte d [.ref r0, .int x1] M K := by
  show mm_W mX9_checkByte d 0 0 0 [(0, .ref r0), (1, .int x1)] [] mm_SH M 0 0 (mm_PI K)
  refine mm_sipush (x := 233) dX9_checkByte_0 rfl ?_
  refine mm_istore_n (lv' := [(2, .int 233), (0, .ref r0), (1, .int x1)]) dX9_checkByte_3 rfl (by decide) rfl ?_
  refine mm_iconst (x := 0) dX9_checkByte_4 rfl ?_
  refine mm_istore_n (lv' := [(3, .int 0), (2, .int 233), (0, .ref r0), (1, .int x1)]) dX9_checkByte_5 rfl (by decide) rfl ?_
  exact mm_sub [2, 3, 1, 0] rfl h
set_option maxRecDepth 100000 in
set_option maxHeartbeats 4000000 in
theorem lX9_checkByte_6 {d : Nat} {r0 : Nat} {n0 : Nat} {x1 : Int32} {M : mm_M} {K : Int32 → mm_M → Prop} {y1 : Int32} {y2 : Int32} {y3 : Int32} (hr0 : mm_SH[r0]? = some (0, n0)) (hG : mm_G M.2.2) (h : if y1 ≤ y3 then (K y2 M) else (if (nI n0) ≤ y3 then (K y2 M) else (vp_in y3 n0 ∧ jX9_checkByte_6 d r0 n0 x1 M K y1 (((3 * y2) + (M.1 r0 (y3).toNatClampNeg)) - ((3 * y2) + (M.1 r0 (y3).toNatClampNeg)) / 251 * 251) (y3 + 1)))) : jX9_checkByte_6 d r0 n0 x1 M K y1 y2 y3 := by
  unfold jX9_checkByte_6
  refine mm_iload_n (j := 3) dX9_checkByte_6 rfl rfl ?_
  refine mm_iload_n (j := 1) dX9_checkByte_7 rfl rfl ?_
  refine mm_icmp_ge (tgt := 35) dX9_checkByte_8 (by decide) (fun hc => ?_) (fun hc => ?_)
  · rw [if_pos hc] at h
    refine mm_iload_n (j := 2) dX9_checkByte_35 rfl rfl ?_
    exact mm_iret dX9_checkByte_36 rfl (Nat.le_refl 0) (Nat.le_refl 0) ⟨_, rfl, rfl, hG, h⟩
  · rw [if_neg hc] at h
    refine mm_iload_n (j := 3) dX9_checkByte_11 rfl rfl ?_
    refine mm_aload_n (j := 0) dX9_checkByte_12 rfl rfl ?_
    refine mm_alen (t := 0) (N := n0) dX9_checkByte_13 hr0 (by decide) ?_
    refine mm_icmp_ge (tgt := 35) dX9_checkByte_14 (by decide) (fun hc => ?_) (fun hc => ?_)
    · rw [if_pos hc] at h
      refine mm_iload_n (j := 2) dX9_checkByte_35 rfl rfl ?_
      exact mm_iret dX9_checkByte_36 rfl (Nat.le_refl 0) (Nat.le_refl 0) ⟨_, rfl, rfl, hG, h⟩
    · rw [if_neg hc] at h
      refine mm_iconst (x := 3) dX9_checkByte_17 rfl ?_
      refine mm_iload_n (j := 2) dX9_checkByte_18 rfl rfl ?_
      refine mm_imul dX9_checkByte_19 ?_
      refine mm_aload_n (j := 0) dX9_checkByte_20 rfl rfl ?_
      refine mm_iload_n (j := 3) dX9_checkByte_21 rfl rfl ?_
      obtain ⟨hi22, h⟩ := h
      refine mm_iaload (N := n0) dX9_checkByte_22 hr0 hi22 ?_
      refine mm_iadd dX9_checkByte_23 ?_
      refine mm_sipush (x := 251) dX9_checkByte_24 rfl ?_
      refine mm_irem dX9_checkByte_27 (by decide) ?_
      refine mm_istore_n (lv' := [(2, .int (((3 * y2) + (M.1 r0 (y3).toNatClampNeg)) - ((3 * y2) + (M.1 r0 (y3).toNatClampNeg)) / 251 * 251)), (0, .ref r0), (1, .int y1), (3, .int y3)]) dX9_checkByte_28 rfl (by decide) rfl ?_
      refine mm_iinc (j := 3) (v := y3 + 1) (lv' := [(3, .int (y3 + 1)), (2, .int (((3 * y2) + (M.1 r0 (y3).toNatClampNeg)) - ((3 * y2) + (M.1 r0 (y3).toNatClampNeg)) / 251 * 251)), (0, .ref r0), (1, .int y1)]) dX9_checkByte_29 rfl rfl (by decide) rfl ?_
      refine mm_goto (tgt := 6) dX9_checkByte_32 (by decide) ?_
      exact mm_sub [2, 3, 1, 0] rfl h
def jX9_writeImage_41 (d : Nat) (a : Nat) (r1 : Nat) (n1 : Nat) (x2 : Int32) (M : mm_M) (K : Int32 → mm_M → Prop) (y2 : Int32) (y3 : Int32) (y4 : Int32) (y5 : Int32) : Prop := mm_W mX9_writeImage (d + 1) 0 0 41 [(0, .ref a), (1, .ref r1), (2, .int y2), (3, .int y3), (4, .int y4), (5, .int y5)] [] mm_SH M 0 0 (mm_PI K)
def jX9_writeImage_103 (d : Nat) (a : Nat) (r1 : Nat) (n1 : Nat) (x2 : Int32) (M : mm_M) (K : Int32 → mm_M → Prop) (y2 : Int32) (y3 : Int32) (y4 : Int32) (y5 : Int32) : Prop := mm_W mX9_writeImage (d + 1) 0 0 103 [(0, .ref a), (1, .ref r1), (2, .int y2), (3, .int y3), (4, .int y4), (5, .int y5)] [] mm_SH M 0 0 (mm_PI K)
def jX9_writeImage_64 (d : Nat) (a : Nat) (r1 : Nat) (n1 : Nat) (x2 : Int32) (M : mm_M) (K : Int32 → mm_M → Prop) (y2 : Int32) (y3 : Int32) (y4 : Int32) (y5 : Int32) (u0 : Int32) (u1 : Int32) : Prop := mm_W mX9_writeImage (d + 1) 0 0 64 [(0, .ref a), (1, .ref r1), (2, .int y2), (3, .int y3), (4, .int y4), (5, .int y5)] [.int u0, .int u1, .ref r1] mm_SH M 0 0 (mm_PI K)
def jX9_writeImage_115 (d : Nat) (a : Nat) (r1 : Nat) (n1 : Nat) (x2 : Int32) (M : mm_M) (K : Int32 → mm_M → Prop) (y2 : Int32) (y3 : Int32) (y4 : Int32) (y5 : Int32) (y6 : Int32) : Prop := mm_W mX9_writeImage (d + 1) 0 0 115 [(0, .ref a), (1, .ref r1), (2, .int y2), (3, .int y3), (4, .int y4), (5, .int y5), (6, .int y6)] [] mm_SH M 0 0 (mm_PI K)
set_option maxRecDepth 100000 in
set_option maxHeartbeats 4000000 in
theorem rX9_writeImage {d : Nat} {a : Nat} {r1 : Nat} {n1 : Nat} {x2 : Int32} {M : mm_M} {K : Int32 → mm_M → Prop} (ha : a ∈ mm_Sts) (hr1 : mm_SH[r1]? = some (0, n1)) (hG : mm_G M.2.2) (h : mm_CI mX9_imageLength d [.int x2] M (fun z1 m1 => if z1 ≤ (nI n1) then (vp_in 0 n1 ∧ vp_in 1 n1 ∧ jX9_writeImage_41 d a r1 n1 x2 (mm_uI (mm_uI m1 r1 (0).toNatClampNeg ((m1.1 a 0) / 256)) r1 (1).toNatClampNeg (((mm_uI m1 r1 (0).toNatClampNeg ((m1.1 a 0) / 256)).1 a 0) - ((mm_uI m1 r1 (0).toNatClampNeg ((m1.1 a 0) / 256)).1 a 0) / 256 * 256)) K x2 z1 2 0) else (K 0 m1))) : mm_CI mX9_writeImage (d + 1) [.ref a, .ref r1, .int x2] M K := by
  show mm_W mX9_writeImage (d + 1) 0 0 0 [(0, .ref a), (1, .ref r1), (2, .int x2)] [] mm_SH M 0 0 (mm_PI K)
  refine mm_iload_n (j := 2) dX9_writeImage_0 rfl rfl ?_
  refine mm_kSI [.int x2] dX9_writeImage_1 kX9_75 rfl (by decide) (by decide) h (fun z1 m1 hG h => ?_)
  refine mm_istore_n (lv' := [(3, .int z1), (0, .ref a), (1, .ref r1), (2, .int x2)]) dX9_writeImage_4 rfl (by decide) rfl ?_
  refine mm_iload_n (j := 0) dX9_writeImage_5 rfl rfl ?_
  refine mm_aload_n (j := 2) dX9_writeImage_6 rfl rfl ?_
  refine mm_alen (t := 0) (N := n1) dX9_writeImage_7 hr1 (by decide) ?_
  refine mm_icmp_le (tgt := 13) dX9_writeImage_8 (by decide) (fun hc => ?_) (fun hc => ?_)
  · rw [if_pos hc] at h
    refine mm_aload_n (j := 2) dX9_writeImage_13 rfl rfl ?_
    refine mm_iconst (x := 0) dX9_writeImage_14 rfl ?_
    refine mm_aload_n (j := 1) dX9_writeImage_15 rfl rfl ?_
    refine mm_getI (ci := 9) (N := 7) dX9_writeImage_16 fX9_24 (sh_St ha) rfl ?_
    refine mm_sipush (x := 256) dX9_writeImage_19 rfl ?_
    refine mm_idiv dX9_writeImage_22 (by decide) ?_
    obtain ⟨hi23, h⟩ := h
    refine mm_iastore (N := n1) dX9_writeImage_23 hr1 hi23 ?_
    refine mm_aload_n (j := 2) dX9_writeImage_24 rfl rfl ?_
    refine mm_iconst (x := 1) dX9_writeImage_25 rfl ?_
    refine mm_aload_n (j := 1) dX9_writeImage_26 rfl rfl ?_
    refine mm_getI (ci := 9) (N := 7) dX9_writeImage_27 fX9_24 (sh_St ha) rfl ?_
    refine mm_sipush (x := 256) dX9_writeImage_30 rfl ?_
    refine mm_irem dX9_writeImage_33 (by decide) ?_
    obtain ⟨hi34, h⟩ := h
    refine mm_iastore (N := n1) dX9_writeImage_34 hr1 hi34 ?_
    refine mm_iconst (x := 2) dX9_writeImage_35 rfl ?_
    refine mm_istore (lv' := [(4, .int 2), (3, .int z1), (0, .ref a), (1, .ref r1), (2, .int x2)]) dX9_writeImage_36 (by decide) rfl ?_
    refine mm_iconst (x := 0) dX9_writeImage_38 rfl ?_
    refine mm_istore (lv' := [(5, .int 0), (4, .int 2), (3, .int z1), (0, .ref a), (1, .ref r1), (2, .int x2)]) dX9_writeImage_39 (by decide) rfl ?_
    exact mm_sub [3, 4, 5, 2, 1, 0] rfl h
  · rw [if_neg hc] at h
    refine mm_iconst (x := 0) dX9_writeImage_11 rfl ?_
    exact mm_iret dX9_writeImage_12 rfl (Nat.le_refl 0) (Nat.le_refl 0) ⟨_, rfl, rfl, hG, h⟩
set_option maxRecDepth 100000 in
set_option maxHeartbeats 4000000 in
theorem lX9_writeImage_41 {d : Nat} {a : Nat} {r1 : Nat} {n1 : Nat} {x2 : Int32} {M : mm_M} {K : Int32 → mm_M → Prop} {y2 : Int32} {y3 : Int32} {y4 : Int32} {y5 : Int32} (ha : a ∈ mm_Sts) (hr1 : mm_SH[r1]? = some (0, n1)) (hG : mm_G M.2.2) (h : if y2 ≤ y5 then (jX9_writeImage_103 d a r1 n1 x2 M K y2 y3 y4 0) else (mm_CI mX9_isThere d [.ref a, .int y5] M (fun z53 m53 => if z53 = 0 then (jX9_writeImage_64 d a r1 n1 x2 m53 K y2 y3 y4 y5 0 y4) else (jX9_writeImage_64 d a r1 n1 x2 m53 K y2 y3 y4 y5 1 y4)))) : jX9_writeImage_41 d a r1 n1 x2 M K y2 y3 y4 y5 := by
  unfold jX9_writeImage_41
  refine mm_iload (j := 5) dX9_writeImage_41 rfl ?_
  refine mm_iload_n (j := 2) dX9_writeImage_43 rfl rfl ?_
  refine mm_icmp_ge (tgt := 100) dX9_writeImage_44 (by decide) (fun hc => ?_) (fun hc => ?_)
  · rw [if_pos hc] at h
    refine mm_iconst (x := 0) dX9_writeImage_100 rfl ?_
    refine mm_istore (lv' := [(5, .int 0), (0, .ref a), (1, .ref r1), (2, .int y2), (3, .int y3), (4, .int y4)]) dX9_writeImage_101 (by decide) rfl ?_
    exact mm_sub [1, 2, 3, 4, 5, 0] rfl h
  · rw [if_neg hc] at h
    refine mm_aload_n (j := 1) dX9_writeImage_47 rfl rfl ?_
    refine mm_iload (j := 4) dX9_writeImage_48 rfl ?_
    refine mm_aload_n (j := 0) dX9_writeImage_50 rfl rfl ?_
    refine mm_iload (j := 5) dX9_writeImage_51 rfl ?_
    refine mm_kVI [.int y5] dX9_writeImage_53 kX9_61 rfl (sh_St ha) (by decide) (by decide) h (fun z53 m53 hG h => ?_)
    refine mm_if_eq (tgt := 63) dX9_writeImage_56 (by decide) (fun hc => ?_) (fun hc => ?_)
    · rw [if_pos hc] at h
      refine mm_iconst (x := 0) dX9_writeImage_63 rfl ?_
      exact h
    · rw [if_neg hc] at h
      refine mm_iconst (x := 1) dX9_writeImage_59 rfl ?_
      refine mm_goto (tgt := 64) dX9_writeImage_60 (by decide) ?_
      exact h
set_option maxRecDepth 100000 in
set_option maxHeartbeats 4000000 in
theorem lX9_writeImage_103 {d : Nat} {a : Nat} {r1 : Nat} {n1 : Nat} {x2 : Int32} {M : mm_M} {K : Int32 → mm_M → Prop} {y2 : Int32} {y3 : Int32} {y4 : Int32} {y5 : Int32} (ha : a ∈ mm_Sts) (hr1 : mm_SH[r1]? = some (0, n1)) (hG : mm_G M.2.2) (h : if y2 ≤ y5 then (mm_CI mX9_checkByte d [.ref r1, .int y4] M (fun z159 m159 => vp_in y4 n1 ∧ K y3 (mm_uI m159 r1 (y4).toNatClampNeg z159))) else (jX9_writeImage_115 d a r1 n1 x2 M K y2 y3 y4 y5 (y5 + 1))) : jX9_writeImage_103 d a r1 n1 x2 M K y2 y3 y4 y5 := by
  unfold jX9_writeImage_103
  refine mm_iload (j := 5) dX9_writeImage_103 rfl ?_
  refine mm_iload_n (j := 2) dX9_writeImage_105 rfl rfl ?_
  refine mm_icmp_ge (tgt := 153) dX9_writeImage_106 (by decide) (fun hc => ?_) (fun hc => ?_)
  · rw [if_pos hc] at h
    refine mm_aload_n (j := 1) dX9_writeImage_153 rfl rfl ?_
    refine mm_iload (j := 4) dX9_writeImage_154 rfl ?_
    refine mm_aload_n (j := 1) dX9_writeImage_156 rfl rfl ?_
    refine mm_iload (j := 4) dX9_writeImage_157 rfl ?_
    refine mm_kSI [.ref r1, .int y4] dX9_writeImage_159 kX9_78 rfl (by decide) (by decide) h (fun z159 m159 hG h => ?_)
    obtain ⟨hi162, h⟩ := h
    refine mm_iastore (N := n1) dX9_writeImage_162 hr1 hi162 ?_
    refine mm_iload_n (j := 3) dX9_writeImage_163 rfl rfl ?_
    exact mm_iret dX9_writeImage_164 rfl (Nat.le_refl 0) (Nat.le_refl 0) ⟨_, rfl, rfl, hG, h⟩
  · rw [if_neg hc] at h
    refine mm_iload (j := 5) dX9_writeImage_109 rfl ?_
    refine mm_iconst (x := 1) dX9_writeImage_111 rfl ?_
    refine mm_iadd dX9_writeImage_112 ?_
    refine mm_istore (lv' := [(6, .int (y5 + 1)), (0, .ref a), (1, .ref r1), (2, .int y2), (3, .int y3), (4, .int y4), (5, .int y5)]) dX9_writeImage_113 (by decide) rfl ?_
    exact mm_sub [1, 2, 3, 4, 5, 6, 0] rfl h
set_option maxRecDepth 100000 in
set_option maxHeartbeats 4000000 in
theorem lX9_writeImage_64 {d : Nat} {a : Nat} {r1 : Nat} {n1 : Nat} {x2 : Int32} {M : mm_M} {K : Int32 → mm_M → Prop} {y2 : Int32} {y3 : Int32} {y4 : Int32} {y5 : Int32} {u0 : Int32} {u1 : Int32} (ha : a ∈ mm_Sts) (hr1 : mm_SH[r1]? = some (0, n1)) (hG : mm_G M.2.2) (h : vp_in u1 n1 ∧ vp_in y5 7 ∧ vp_in (y4 + 1) n1 ∧ vp_in y5 7 ∧ vp_in (y4 + 2) n1 ∧ jX9_writeImage_41 d a r1 n1 x2 (mm_uI (mm_uI (mm_uI M r1 (u1).toNatClampNeg u0) r1 (y4 + 1).toNatClampNeg ((mm_uI M r1 (u1).toNatClampNeg u0).1 (a + 1) (y5).toNatClampNeg)) r1 (y4 + 2).toNatClampNeg ((mm_uI (mm_uI M r1 (u1).toNatClampNeg u0) r1 (y4 + 1).toNatClampNeg ((mm_uI M r1 (u1).toNatClampNeg u0).1 (a + 1) (y5).toNatClampNeg)).1 (a + 2) (y5).toNatClampNeg)) K y2 y3 (y4 + 3) (y5 + 1)) : jX9_writeImage_64 d a r1 n1 x2 M K y2 y3 y4 y5 u0 u1 := by
  unfold jX9_writeImage_64
  obtain ⟨hi64, h⟩ := h
  refine mm_iastore (N := n1) dX9_writeImage_64 hr1 hi64 ?_
  refine mm_aload_n (j := 1) dX9_writeImage_65 rfl rfl ?_
  refine mm_iload (j := 4) dX9_writeImage_66 rfl ?_
  refine mm_iconst (x := 1) dX9_writeImage_68 rfl ?_
  refine mm_iadd dX9_writeImage_69 ?_
  refine mm_aload_n (j := 0) dX9_writeImage_70 rfl rfl ?_
  refine mm_getR (ci := 9) (N := 7) (r := a + 1) dX9_writeImage_71 fX9_9 (sh_St ha) rfl (g_St_3 hG ha) ?_
  refine mm_iload (j := 5) dX9_writeImage_74 rfl ?_
  obtain ⟨hi76, h⟩ := h
  refine mm_iaload (N := 7) dX9_writeImage_76 (sh_St_1 ha) hi76 ?_
  obtain ⟨hi77, h⟩ := h
  refine mm_iastore (N := n1) dX9_writeImage_77 hr1 hi77 ?_
  refine mm_aload_n (j := 1) dX9_writeImage_78 rfl rfl ?_
  refine mm_iload (j := 4) dX9_writeImage_79 rfl ?_
  refine mm_iconst (x := 2) dX9_writeImage_81 rfl ?_
  refine mm_iadd dX9_writeImage_82 ?_
  refine mm_aload_n (j := 0) dX9_writeImage_83 rfl rfl ?_
  refine mm_getR (ci := 9) (N := 7) (r := a + 2) dX9_writeImage_84 fX9_15 (sh_St ha) rfl (g_St_4 hG ha) ?_
  refine mm_iload (j := 5) dX9_writeImage_87 rfl ?_
  obtain ⟨hi89, h⟩ := h
  refine mm_iaload (N := 7) dX9_writeImage_89 (sh_St_2 ha) hi89 ?_
  obtain ⟨hi90, h⟩ := h
  refine mm_iastore (N := n1) dX9_writeImage_90 hr1 hi90 ?_
  refine mm_iinc (j := 4) (v := y4 + 3) (lv' := [(4, .int (y4 + 3)), (0, .ref a), (1, .ref r1), (2, .int y2), (3, .int y3), (5, .int y5)]) dX9_writeImage_91 rfl rfl (by decide) rfl ?_
  refine mm_iinc (j := 5) (v := y5 + 1) (lv' := [(5, .int (y5 + 1)), (4, .int (y4 + 3)), (0, .ref a), (1, .ref r1), (2, .int y2), (3, .int y3)]) dX9_writeImage_94 rfl rfl (by decide) rfl ?_
  refine mm_goto (tgt := 41) dX9_writeImage_97 (by decide) ?_
  exact mm_sub [2, 3, 4, 5, 1, 0] rfl h
set_option maxRecDepth 100000 in
set_option maxHeartbeats 4000000 in
theorem lX9_writeImage_115 {d : Nat} {a : Nat} {r1 : Nat} {n1 : Nat} {x2 : Int32} {M : mm_M} {K : Int32 → mm_M → Prop} {y2 : Int32} {y3 : Int32} {y4 : Int32} {y5 : Int32} {y6 : Int32} (ha : a ∈ mm_Sts) (hr1 : mm_SH[r1]? = some (0, n1)) (hG : mm_G M.2.2) (h : if y2 ≤ y6 then (jX9_writeImage_103 d a r1 n1 x2 M K y2 y3 y4 (y5 + 1)) else (vp_in ((8 * y5) + y6) 64 ∧ vp_in y4 n1 ∧ jX9_writeImage_115 d a r1 n1 x2 (mm_uI M r1 (y4).toNatClampNeg (M.1 (a + 3) ((8 * y5) + y6).toNatClampNeg)) K y2 y3 (y4 + 1) y5 (y6 + 1))) : jX9_writeImage_115 d a r1 n1 x2 M K y2 y3 y4 y5 y6 := by
  unfold jX9_writeImage_115
  refine mm_iload (j := 6) dX9_writeImage_115 rfl ?_
  refine mm_iload_n (j := 2) dX9_writeImage_117 rfl rfl ?_
  refine mm_icmp_ge (tgt := 147) dX9_writeImage_118 (by decide) (fun hc => ?_) (fun hc => ?_)
  · rw [if_pos hc] at h
    refine mm_iinc (j := 5) (v := y5 + 1) (lv' := [(5, .int (y5 + 1)), (0, .ref a), (1, .ref r1), (2, .int y2), (3, .int y3), (4, .int y4), (6, .int y6)]) dX9_writeImage_147 rfl rfl (by decide) rfl ?_
    refine mm_goto (tgt := 103) dX9_writeImage_150 (by decide) ?_
    exact mm_sub [1, 2, 3, 4, 5, 0] rfl h
  · rw [if_neg hc] at h
    refine mm_aload_n (j := 1) dX9_writeImage_121 rfl rfl ?_
    refine mm_iload (j := 4) dX9_writeImage_122 rfl ?_
    refine mm_aload_n (j := 0) dX9_writeImage_124 rfl rfl ?_
    refine mm_getR (ci := 9) (N := 7) (r := a + 3) dX9_writeImage_125 fX9_18 (sh_St ha) rfl (g_St_5 hG ha) ?_
    refine mm_bipush (x := 8) dX9_writeImage_128 rfl ?_
    refine mm_iload (j := 5) dX9_writeImage_130 rfl ?_
    refine mm_imul dX9_writeImage_132 ?_
    refine mm_iload (j := 6) dX9_writeImage_133 rfl ?_
    refine mm_iadd dX9_writeImage_135 ?_
    obtain ⟨hi136, h⟩ := h
    refine mm_iaload (N := 64) dX9_writeImage_136 (sh_St_3 ha) hi136 ?_
    obtain ⟨hi137, h⟩ := h
    refine mm_iastore (N := n1) dX9_writeImage_137 hr1 hi137 ?_
    refine mm_iinc (j := 4) (v := y4 + 1) (lv' := [(4, .int (y4 + 1)), (0, .ref a), (1, .ref r1), (2, .int y2), (3, .int y3), (5, .int y5), (6, .int y6)]) dX9_writeImage_138 rfl rfl (by decide) rfl ?_
    refine mm_iinc (j := 6) (v := y6 + 1) (lv' := [(6, .int (y6 + 1)), (4, .int (y4 + 1)), (0, .ref a), (1, .ref r1), (2, .int y2), (3, .int y3), (5, .int y5)]) dX9_writeImage_141 rfl rfl (by decide) rfl ?_
    refine mm_goto (tgt := 115) dX9_writeImage_144 (by decide) ?_
    exact mm_sub [2, 3, 4, 5, 1, 6, 0] rfl h
def jX9_isImage_50 (d : Nat) (r0 : Nat) (n0 : Nat) (x1 : Int32) (x2 : Int32) (M : mm_M) (K : Int32 → mm_M → Prop) (y2 : Int32) (y3 : Int32) : Prop := mm_W mX9_isImage (d + 1) 0 0 50 [(0, .ref r0), (2, .int y2), (3, .int y3)] [] mm_SH M 0 0 (mm_PI K)
def jX9_isImage_109 (d : Nat) (r0 : Nat) (n0 : Nat) (x1 : Int32) (x2 : Int32) (M : mm_M) (K : Int32 → mm_M → Prop) (y2 : Int32) (y3 : Int32) (y4 : Int32) : Prop := mm_W mX9_isImage (d + 1) 0 0 109 [(0, .ref r0), (2, .int y2), (3, .int y3), (4, .int y4)] [] mm_SH M 0 0 (mm_PI K)
def jX9_isImage_121 (d : Nat) (r0 : Nat) (n0 : Nat) (x1 : Int32) (x2 : Int32) (M : mm_M) (K : Int32 → mm_M → Prop) (y2 : Int32) (y3 : Int32) (y4 : Int32) (y5 : Int32) : Prop := mm_W mX9_isImage (d + 1) 0 0 121 [(0, .ref r0), (2, .int y2), (3, .int y3), (4, .int y4), (5, .int y5)] [] mm_SH M 0 0 (mm_PI K)
def jX9_isImage_156 (d : Nat) (r0 : Nat) (n0 : Nat) (x1 : Int32) (x2 : Int32) (M : mm_M) (K : Int32 → mm_M → Prop) (y2 : Int32) (y3 : Int32) (y4 : Int32) (y5 : Int32) (u0 : Int32) : Prop := mm_W mX9_isImage (d + 1) 0 0 156 [(0, .ref r0), (2, .int y2), (3, .int y3), (4, .int y4), (5, .int y5)] [.int u0] mm_SH M 0 0 (mm_PI K)
set_option maxRecDepth 100000 in
set_option maxHeartbeats 4000000 in
theorem rX9_isImage {d : Nat} {r0 : Nat} {n0 : Nat} {x1 : Int32} {x2 : Int32} {M : mm_M} {K : Int32 → mm_M → Prop} (hr0 : mm_SH[r0]? = some (0, n0)) (hG : mm_G M.2.2) (h : mm_CI mX9_imageLength d [.int x2] M (fun z2 m2 => if x1 = z2 then (if (nI n0) < x1 then (K 0 m2) else (vp_in 0 n0 ∧ vp_in 1 n0 ∧ if 999 < (((m2.1 r0 (0).toNatClampNeg) * 256) + (m2.1 r0 (1).toNatClampNeg)) then (K 0 m2) else (vp_in (x1 - 1) n0 ∧ mm_CI mX9_checkByte d [.ref r0, .int (x1 - 1)] m2 (fun z40 m40 => if (m2.1 r0 (x1 - 1).toNatClampNeg) = z40 then (jX9_isImage_50 d r0 n0 x1 x2 m40 K x2 0) else (K 0 m40))))) else (K 0 m2))) : mm_CI mX9_isImage (d + 1) [.ref r0, .int x1, .int x2] M K := by
  show mm_W mX9_isImage (d + 1) 0 0 0 [(0, .ref r0), (1, .int x1), (2, .int x2)] [] mm_SH M 0 0 (mm_PI K)
  refine mm_iload_n (j := 1) dX9_isImage_0 rfl rfl ?_
  refine mm_iload_n (j := 2) dX9_isImage_1 rfl rfl ?_
  refine mm_kSI [.int x2] dX9_isImage_2 kX9_75 rfl (by decide) (by decide) h (fun z2 m2 hG h => ?_)
  refine mm_icmp_ne (tgt := 46) dX9_isImage_5 (by decide) (fun hc => ?_) (fun hc => ?_)
  · rw [if_neg hc] at h
    refine mm_iconst (x := 0) dX9_isImage_46 rfl ?_
    exact mm_zret dX9_isImage_47 rfl rfl (Nat.le_refl 0) (Nat.le_refl 0) ⟨_, rfl, rfl, hG, h⟩
  · rw [if_pos hc] at h
    refine mm_iload_n (j := 1) dX9_isImage_8 rfl rfl ?_
    refine mm_aload_n (j := 0) dX9_isImage_9 rfl rfl ?_
    refine mm_alen (t := 0) (N := n0) dX9_isImage_10 hr0 (by decide) ?_
    refine mm_icmp_gt (tgt := 46) dX9_isImage_11 (by decide) (fun hc => ?_) (fun hc => ?_)
    · rw [if_pos hc] at h
      refine mm_iconst (x := 0) dX9_isImage_46 rfl ?_
      exact mm_zret dX9_isImage_47 rfl rfl (Nat.le_refl 0) (Nat.le_refl 0) ⟨_, rfl, rfl, hG, h⟩
    · rw [if_neg hc] at h
      refine mm_aload_n (j := 0) dX9_isImage_14 rfl rfl ?_
      refine mm_iconst (x := 0) dX9_isImage_15 rfl ?_
      obtain ⟨hi16, h⟩ := h
      refine mm_iaload (N := n0) dX9_isImage_16 hr0 hi16 ?_
      refine mm_sipush (x := 256) dX9_isImage_17 rfl ?_
      refine mm_imul dX9_isImage_20 ?_
      refine mm_aload_n (j := 0) dX9_isImage_21 rfl rfl ?_
      refine mm_iconst (x := 1) dX9_isImage_22 rfl ?_
      obtain ⟨hi23, h⟩ := h
      refine mm_iaload (N := n0) dX9_isImage_23 hr0 hi23 ?_
      refine mm_iadd dX9_isImage_24 ?_
      refine mm_sipush (x := 999) dX9_isImage_25 rfl ?_
      refine mm_icmp_gt (tgt := 46) dX9_isImage_28 (by decide) (fun hc => ?_) (fun hc => ?_)
      · rw [if_pos hc] at h
        refine mm_iconst (x := 0) dX9_isImage_46 rfl ?_
        exact mm_zret dX9_isImage_47 rfl rfl (Nat.le_refl 0) (Nat.le_refl 0) ⟨_, rfl, rfl, hG, h⟩
      · rw [if_neg hc] at h
        refine mm_aload_n (j := 0) dX9_isImage_31 rfl rfl ?_
        refine mm_iload_n (j := 1) dX9_isImage_32 rfl rfl ?_
        refine mm_iconst (x := 1) dX9_isImage_33 rfl ?_
        refine mm_isub dX9_isImage_34 ?_
        obtain ⟨hi35, h⟩ := h
        refine mm_iaload (N := n0) dX9_isImage_35 hr0 hi35 ?_
        refine mm_aload_n (j := 0) dX9_isImage_36 rfl rfl ?_
        refine mm_iload_n (j := 1) dX9_isImage_37 rfl rfl ?_
        refine mm_iconst (x := 1) dX9_isImage_38 rfl ?_
        refine mm_isub dX9_isImage_39 ?_
        refine mm_kSI [.ref r0, .int (x1 - 1)] dX9_isImage_40 kX9_78 rfl (by decide) (by decide) h (fun z40 m40 hG h => ?_)
        refine mm_icmp_eq (tgt := 48) dX9_isImage_43 (by decide) (fun hc => ?_) (fun hc => ?_)
        · rw [if_pos hc] at h
          refine mm_iconst (x := 0) dX9_isImage_48 rfl ?_
          refine mm_istore_n (lv' := [(3, .int 0), (0, .ref r0), (1, .int x1), (2, .int x2)]) dX9_isImage_49 rfl (by decide) rfl ?_
          exact mm_sub [1, 3, 0] rfl h
        · rw [if_neg hc] at h
          refine mm_iconst (x := 0) dX9_isImage_46 rfl ?_
          exact mm_zret dX9_isImage_47 rfl rfl (Nat.le_refl 0) (Nat.le_refl 0) ⟨_, rfl, rfl, hG, h⟩
set_option maxRecDepth 100000 in
set_option maxHeartbeats 4000000 in
theorem lX9_isImage_50 {d : Nat} {r0 : Nat} {n0 : Nat} {x1 : Int32} {x2 : Int32} {M : mm_M} {K : Int32 → mm_M → Prop} {y2 : Int32} {y3 : Int32} (hr0 : mm_SH[r0]? = some (0, n0)) (hG : mm_G M.2.2) (h : if y2 ≤ y3 then (jX9_isImage_109 d r0 n0 x1 x2 M K y2 (2 + (3 * y2)) 0) else (vp_in (2 + (3 * y3)) n0 ∧ if 1 < (M.1 r0 (2 + (3 * y3)).toNatClampNeg) then (K 0 M) else (vp_in ((2 + (3 * y3)) + 1) n0 ∧ if 99 < (M.1 r0 ((2 + (3 * y3)) + 1).toNatClampNeg) then (K 0 M) else (vp_in ((2 + (3 * y3)) + 2) n0 ∧ if (M.1 r0 ((2 + (3 * y3)) + 2).toNatClampNeg) ≤ 9 then (jX9_isImage_50 d r0 n0 x1 x2 M K y2 (y3 + 1)) else (K 0 M))))) : jX9_isImage_50 d r0 n0 x1 x2 M K y2 y3 := by
  unfold jX9_isImage_50
  refine mm_iload_n (j := 2) dX9_isImage_50 rfl rfl ?_
  refine mm_iload_n (j := 1) dX9_isImage_51 rfl rfl ?_
  refine mm_icmp_ge (tgt := 100) dX9_isImage_52 (by decide) (fun hc => ?_) (fun hc => ?_)
  · rw [if_pos hc] at h
    refine mm_iconst (x := 2) dX9_isImage_100 rfl ?_
    refine mm_iconst (x := 3) dX9_isImage_101 rfl ?_
    refine mm_iload_n (j := 1) dX9_isImage_102 rfl rfl ?_
    refine mm_imul dX9_isImage_103 ?_
    refine mm_iadd dX9_isImage_104 ?_
    refine mm_istore_n (lv' := [(3, .int (2 + (3 * y2))), (0, .ref r0), (2, .int y2)]) dX9_isImage_105 rfl (by decide) rfl ?_
    refine mm_iconst (x := 0) dX9_isImage_106 rfl ?_
    refine mm_istore (lv' := [(4, .int 0), (3, .int (2 + (3 * y2))), (0, .ref r0), (2, .int y2)]) dX9_isImage_107 (by decide) rfl ?_
    exact mm_sub [2, 3, 1, 0] rfl h
  · rw [if_neg hc] at h
    refine mm_iconst (x := 2) dX9_isImage_55 rfl ?_
    refine mm_iconst (x := 3) dX9_isImage_56 rfl ?_
    refine mm_iload_n (j := 2) dX9_isImage_57 rfl rfl ?_
    refine mm_imul dX9_isImage_58 ?_
    refine mm_iadd dX9_isImage_59 ?_
    refine mm_istore (lv' := [(4, .int (2 + (3 * y3))), (0, .ref r0), (2, .int y2), (3, .int y3)]) dX9_isImage_60 (by decide) rfl ?_
    refine mm_aload_n (j := 1) dX9_isImage_62 rfl rfl ?_
    refine mm_iload (j := 0) dX9_isImage_63 rfl ?_
    obtain ⟨hi65, h⟩ := h
    refine mm_iaload (N := n0) dX9_isImage_65 hr0 hi65 ?_
    refine mm_iconst (x := 1) dX9_isImage_66 rfl ?_
    refine mm_icmp_gt (tgt := 92) dX9_isImage_67 (by decide) (fun hc => ?_) (fun hc => ?_)
    · rw [if_pos hc] at h
      refine mm_iconst (x := 0) dX9_isImage_92 rfl ?_
      exact mm_zret dX9_isImage_93 rfl rfl (Nat.le_refl 0) (Nat.le_refl 0) ⟨_, rfl, rfl, hG, h⟩
    · rw [if_neg hc] at h
      refine mm_aload_n (j := 1) dX9_isImage_70 rfl rfl ?_
      refine mm_iload (j := 0) dX9_isImage_71 rfl ?_
      refine mm_iconst (x := 1) dX9_isImage_73 rfl ?_
      refine mm_iadd dX9_isImage_74 ?_
      obtain ⟨hi75, h⟩ := h
      refine mm_iaload (N := n0) dX9_isImage_75 hr0 hi75 ?_
      refine mm_bipush (x := 99) dX9_isImage_76 rfl ?_
      refine mm_icmp_gt (tgt := 92) dX9_isImage_78 (by decide) (fun hc => ?_) (fun hc => ?_)
      · rw [if_pos hc] at h
        refine mm_iconst (x := 0) dX9_isImage_92 rfl ?_
        exact mm_zret dX9_isImage_93 rfl rfl (Nat.le_refl 0) (Nat.le_refl 0) ⟨_, rfl, rfl, hG, h⟩
      · rw [if_neg hc] at h
        refine mm_aload_n (j := 1) dX9_isImage_81 rfl rfl ?_
        refine mm_iload (j := 0) dX9_isImage_82 rfl ?_
        refine mm_iconst (x := 2) dX9_isImage_84 rfl ?_
        refine mm_iadd dX9_isImage_85 ?_
        obtain ⟨hi86, h⟩ := h
        refine mm_iaload (N := n0) dX9_isImage_86 hr0 hi86 ?_
        refine mm_bipush (x := 9) dX9_isImage_87 rfl ?_
        refine mm_icmp_le (tgt := 94) dX9_isImage_89 (by decide) (fun hc => ?_) (fun hc => ?_)
        · rw [if_pos hc] at h
          refine mm_iinc (j := 3) (v := y3 + 1) (lv' := [(3, .int (y3 + 1)), (4, .int (2 + (3 * y3))), (0, .ref r0), (2, .int y2)]) dX9_isImage_94 rfl rfl (by decide) rfl ?_
          refine mm_goto (tgt := 50) dX9_isImage_97 (by decide) ?_
          exact mm_sub [2, 3, 0] rfl h
        · rw [if_neg hc] at h
          refine mm_iconst (x := 0) dX9_isImage_92 rfl ?_
          exact mm_zret dX9_isImage_93 rfl rfl (Nat.le_refl 0) (Nat.le_refl 0) ⟨_, rfl, rfl, hG, h⟩
set_option maxRecDepth 100000 in
set_option maxHeartbeats 4000000 in
theorem lX9_isImage_109 {d : Nat} {r0 : Nat} {n0 : Nat} {x1 : Int32} {x2 : Int32} {M : mm_M} {K : Int32 → mm_M → Prop} {y2 : Int32} {y3 : Int32} {y4 : Int32} (hr0 : mm_SH[r0]? = some (0, n0)) (hG : mm_G M.2.2) (h : if y2 ≤ y4 then (K 1 M) else (jX9_isImage_121 d r0 n0 x1 x2 M K y2 y3 y4 (y4 + 1))) : jX9_isImage_109 d r0 n0 x1 x2 M K y2 y3 y4 := by
  unfold jX9_isImage_109
  refine mm_iload (j := 3) dX9_isImage_109 rfl ?_
  refine mm_iload_n (j := 1) dX9_isImage_111 rfl rfl ?_
  refine mm_icmp_ge (tgt := 192) dX9_isImage_112 (by decide) (fun hc => ?_) (fun hc => ?_)
  · rw [if_pos hc] at h
    refine mm_iconst (x := 1) dX9_isImage_192 rfl ?_
    exact mm_zret dX9_isImage_193 rfl rfl (Nat.le_refl 0) (Nat.le_refl 0) ⟨_, rfl, rfl, hG, h⟩
  · rw [if_neg hc] at h
    refine mm_iload (j := 3) dX9_isImage_115 rfl ?_
    refine mm_iconst (x := 1) dX9_isImage_117 rfl ?_
    refine mm_iadd dX9_isImage_118 ?_
    refine mm_istore (lv' := [(5, .int (y4 + 1)), (0, .ref r0), (2, .int y2), (3, .int y3), (4, .int y4)]) dX9_isImage_119 (by decide) rfl ?_
    exact mm_sub [1, 2, 3, 4, 0] rfl h
set_option maxRecDepth 100000 in
set_option maxHeartbeats 4000000 in
theorem lX9_isImage_121 {d : Nat} {r0 : Nat} {n0 : Nat} {x1 : Int32} {x2 : Int32} {M : mm_M} {K : Int32 → mm_M → Prop} {y2 : Int32} {y3 : Int32} {y4 : Int32} {y5 : Int32} (hr0 : mm_SH[r0]? = some (0, n0)) (hG : mm_G M.2.2) (h : if y2 ≤ y5 then (jX9_isImage_109 d r0 n0 x1 x2 M K y2 y3 (y4 + 1)) else (vp_in (2 + (3 * y4)) n0 ∧ if (M.1 r0 (2 + (3 * y4)).toNatClampNeg) = 1 then (vp_in (2 + (3 * y5)) n0 ∧ if (M.1 r0 (2 + (3 * y5)).toNatClampNeg) = 1 then (jX9_isImage_156 d r0 n0 x1 x2 M K y2 y3 y4 y5 1) else (jX9_isImage_156 d r0 n0 x1 x2 M K y2 y3 y4 y5 0)) else (jX9_isImage_156 d r0 n0 x1 x2 M K y2 y3 y4 y5 0))) : jX9_isImage_121 d r0 n0 x1 x2 M K y2 y3 y4 y5 := by
  unfold jX9_isImage_121
  refine mm_iload (j := 4) dX9_isImage_121 rfl ?_
  refine mm_iload_n (j := 1) dX9_isImage_123 rfl rfl ?_
  refine mm_icmp_ge (tgt := 186) dX9_isImage_124 (by decide) (fun hc => ?_) (fun hc => ?_)
  · rw [if_pos hc] at h
    refine mm_iinc (j := 3) (v := y4 + 1) (lv' := [(4, .int (y4 + 1)), (0, .ref r0), (2, .int y2), (3, .int y3), (5, .int y5)]) dX9_isImage_186 rfl rfl (by decide) rfl ?_
    refine mm_goto (tgt := 109) dX9_isImage_189 (by decide) ?_
    exact mm_sub [1, 2, 3, 0] rfl h
  · rw [if_neg hc] at h
    refine mm_aload_n (j := 0) dX9_isImage_127 rfl rfl ?_
    refine mm_iconst (x := 2) dX9_isImage_128 rfl ?_
    refine mm_iconst (x := 3) dX9_isImage_129 rfl ?_
    refine mm_iload (j := 3) dX9_isImage_130 rfl ?_
    refine mm_imul dX9_isImage_132 ?_
    refine mm_iadd dX9_isImage_133 ?_
    obtain ⟨hi134, h⟩ := h
    refine mm_iaload (N := n0) dX9_isImage_134 hr0 hi134 ?_
    refine mm_iconst (x := 1) dX9_isImage_135 rfl ?_
    refine mm_icmp_ne (tgt := 155) dX9_isImage_136 (by decide) (fun hc => ?_) (fun hc => ?_)
    · rw [if_neg hc] at h
      refine mm_iconst (x := 0) dX9_isImage_155 rfl ?_
      exact h
    · rw [if_pos hc] at h
      refine mm_aload_n (j := 0) dX9_isImage_139 rfl rfl ?_
      refine mm_iconst (x := 2) dX9_isImage_140 rfl ?_
      refine mm_iconst (x := 3) dX9_isImage_141 rfl ?_
      refine mm_iload (j := 4) dX9_isImage_142 rfl ?_
      refine mm_imul dX9_isImage_144 ?_
      refine mm_iadd dX9_isImage_145 ?_
      obtain ⟨hi146, h⟩ := h
      refine mm_iaload (N := n0) dX9_isImage_146 hr0 hi146 ?_
      refine mm_iconst (x := 1) dX9_isImage_147 rfl ?_
      refine mm_icmp_ne (tgt := 155) dX9_isImage_148 (by decide) (fun hc => ?_) (fun hc => ?_)
      · rw [if_neg hc] at h
        refine mm_iconst (x := 0) dX9_isImage_155 rfl ?_
        exact h
      · rw [if_pos hc] at h
        refine mm_iconst (x := 1) dX9_isImage_151 rfl ?_
        refine mm_goto (tgt := 156) dX9_isImage_152 (by decide) ?_
        exact h
set_option maxRecDepth 100000 in
set_option maxHeartbeats 4000000 in
theorem lX9_isImage_156 {d : Nat} {r0 : Nat} {n0 : Nat} {x1 : Int32} {x2 : Int32} {M : mm_M} {K : Int32 → mm_M → Prop} {y2 : Int32} {y3 : Int32} {y4 : Int32} {y5 : Int32} {u0 : Int32} (hr0 : mm_SH[r0]? = some (0, n0)) (hG : mm_G M.2.2) (h : vp_in y3 n0 ∧ if u0 = 0 then (if (M.1 r0 (y3).toNatClampNeg) ≤ 0 then (jX9_isImage_121 d r0 n0 x1 x2 M K y2 (y3 + 1) y4 (y5 + 1)) else (K 0 M)) else (if (M.1 r0 (y3).toNatClampNeg) ≤ 99 then (jX9_isImage_121 d r0 n0 x1 x2 M K y2 (y3 + 1) y4 (y5 + 1)) else (K 0 M))) : jX9_isImage_156 d r0 n0 x1 x2 M K y2 y3 y4 y5 u0 := by
  unfold jX9_isImage_156
  refine mm_istore (lv' := [(6, .int u0), (0, .ref r0), (2, .int y2), (3, .int y3), (4, .int y4), (5, .int y5)]) dX9_isImage_156 (by decide) rfl ?_
  refine mm_aload_n (j := 1) dX9_isImage_158 rfl rfl ?_
  refine mm_iload_n (j := 3) dX9_isImage_159 rfl rfl ?_
  obtain ⟨hi160, h⟩ := h
  refine mm_iaload (N := n0) dX9_isImage_160 hr0 hi160 ?_
  refine mm_iload (j := 0) dX9_isImage_161 rfl ?_
  refine mm_if_eq (tgt := 171) dX9_isImage_163 (by decide) (fun hc => ?_) (fun hc => ?_)
  · rw [if_pos hc] at h
    refine mm_iconst (x := 0) dX9_isImage_171 rfl ?_
    refine mm_icmp_le (tgt := 177) dX9_isImage_172 (by decide) (fun hc => ?_) (fun hc => ?_)
    · rw [if_pos hc] at h
      refine mm_iinc (j := 3) (v := y3 + 1) (lv' := [(3, .int (y3 + 1)), (6, .int u0), (0, .ref r0), (2, .int y2), (4, .int y4), (5, .int y5)]) dX9_isImage_177 rfl rfl (by decide) rfl ?_
      refine mm_iinc (j := 5) (v := y5 + 1) (lv' := [(5, .int (y5 + 1)), (3, .int (y3 + 1)), (6, .int u0), (0, .ref r0), (2, .int y2), (4, .int y4)]) dX9_isImage_180 rfl rfl (by decide) rfl ?_
      refine mm_goto (tgt := 121) dX9_isImage_183 (by decide) ?_
      exact mm_sub [3, 4, 1, 5, 0] rfl h
    · rw [if_neg hc] at h
      refine mm_iconst (x := 0) dX9_isImage_175 rfl ?_
      exact mm_zret dX9_isImage_176 rfl rfl (Nat.le_refl 0) (Nat.le_refl 0) ⟨_, rfl, rfl, hG, h⟩
  · rw [if_neg hc] at h
    refine mm_bipush (x := 99) dX9_isImage_166 rfl ?_
    refine mm_goto (tgt := 172) dX9_isImage_168 (by decide) ?_
    refine mm_icmp_le (tgt := 177) dX9_isImage_172 (by decide) (fun hc => ?_) (fun hc => ?_)
    · rw [if_pos hc] at h
      refine mm_iinc (j := 3) (v := y3 + 1) (lv' := [(3, .int (y3 + 1)), (6, .int u0), (0, .ref r0), (2, .int y2), (4, .int y4), (5, .int y5)]) dX9_isImage_177 rfl rfl (by decide) rfl ?_
      refine mm_iinc (j := 5) (v := y5 + 1) (lv' := [(5, .int (y5 + 1)), (3, .int (y3 + 1)), (6, .int u0), (0, .ref r0), (2, .int y2), (4, .int y4)]) dX9_isImage_180 rfl rfl (by decide) rfl ?_
      refine mm_goto (tgt := 121) dX9_isImage_183 (by decide) ?_
      exact mm_sub [3, 4, 1, 5, 0] rfl h
    · rw [if_neg hc] at h
      refine mm_iconst (x := 0) dX9_isImage_175 rfl ?_
      exact mm_zret dX9_isImage_176 rfl rfl (Nat.le_refl 0) (Nat.le_refl 0) ⟨_, rfl, rfl, hG, h⟩
def jX9_readImage_46 (d : Nat) (a : Nat) (r1 : Nat) (n1 : Nat) (x2 : Int32) (M : mm_M) (K : mm_M → Prop) (y2 : Int32) (y3 : Int32) (y4 : Int32) : Prop := mm_W mX9_readImage (d + 1) 0 0 46 [(0, .ref a), (1, .ref r1), (2, .int y2), (3, .int y3), (4, .int y4)] [] mm_SH M 0 0 (mm_PV K)
def jX9_readImage_103 (d : Nat) (a : Nat) (r1 : Nat) (n1 : Nat) (x2 : Int32) (M : mm_M) (K : mm_M → Prop) (y2 : Int32) (y3 : Int32) (y4 : Int32) : Prop := mm_W mX9_readImage (d + 1) 0 0 103 [(0, .ref a), (1, .ref r1), (2, .int y2), (3, .int y3), (4, .int y4)] [] mm_SH M 0 0 (mm_PV K)
def jX9_readImage_115 (d : Nat) (a : Nat) (r1 : Nat) (n1 : Nat) (x2 : Int32) (M : mm_M) (K : mm_M → Prop) (y2 : Int32) (y3 : Int32) (y4 : Int32) (y5 : Int32) : Prop := mm_W mX9_readImage (d + 1) 0 0 115 [(0, .ref a), (1, .ref r1), (2, .int y2), (3, .int y3), (4, .int y4), (5, .int y5)] [] mm_SH M 0 0 (mm_PV K)
set_option maxRecDepth 100000 in
set_option maxHeartbeats 4000000 in
theorem rX9_readImage {d : Nat} {a : Nat} {r1 : Nat} {n1 : Nat} {x2 : Int32} {M : mm_M} {K : mm_M → Prop} (ha : a ∈ mm_Sts) (hr1 : mm_SH[r1]? = some (0, n1)) (hG : mm_G M.2.2) (h : mm_CI mX9_imageLength d [.int x2] M (fun z1 m1 => if (nI n1) < z1 then (K m1) else (if x2 ≤ 7 then (vp_in 0 n1 ∧ vp_in 1 n1 ∧ jX9_readImage_46 d a r1 n1 x2 (mm_uI (mm_uI (mm_uI m1 a 0 (((m1.1 r1 (0).toNatClampNeg) * 256) + (m1.1 r1 (1).toNatClampNeg))) a 1 0) a 2 0) K x2 2 0) else (K m1)))) : mm_CV mX9_readImage (d + 1) [.ref a, .ref r1, .int x2] M K := by
  show mm_W mX9_readImage (d + 1) 0 0 0 [(0, .ref a), (1, .ref r1), (2, .int x2)] [] mm_SH M 0 0 (mm_PV K)
  refine mm_iload_n (j := 2) dX9_readImage_0 rfl rfl ?_
  refine mm_kSI [.int x2] dX9_readImage_1 kX9_75 rfl (by decide) (by decide) h (fun z1 m1 hG h => ?_)
  refine mm_aload_n (j := 1) dX9_readImage_4 rfl rfl ?_
  refine mm_alen (t := 0) (N := n1) dX9_readImage_5 hr1 (by decide) ?_
  refine mm_icmp_gt (tgt := 15) dX9_readImage_6 (by decide) (fun hc => ?_) (fun hc => ?_)
  · rw [if_pos hc] at h
    exact mm_vret dX9_readImage_15 rfl (Nat.le_refl 0) (Nat.le_refl 0) ⟨rfl, rfl, hG, h⟩
  · rw [if_neg hc] at h
    refine mm_iload_n (j := 2) dX9_readImage_9 rfl rfl ?_
    refine mm_bipush (x := 7) dX9_readImage_10 rfl ?_
    refine mm_icmp_le (tgt := 16) dX9_readImage_12 (by decide) (fun hc => ?_) (fun hc => ?_)
    · rw [if_pos hc] at h
      refine mm_aload_n (j := 0) dX9_readImage_16 rfl rfl ?_
      refine mm_aload_n (j := 1) dX9_readImage_17 rfl rfl ?_
      refine mm_iconst (x := 0) dX9_readImage_18 rfl ?_
      obtain ⟨hi19, h⟩ := h
      refine mm_iaload (N := n1) dX9_readImage_19 hr1 hi19 ?_
      refine mm_sipush (x := 256) dX9_readImage_20 rfl ?_
      refine mm_imul dX9_readImage_23 ?_
      refine mm_aload_n (j := 1) dX9_readImage_24 rfl rfl ?_
      refine mm_iconst (x := 1) dX9_readImage_25 rfl ?_
      obtain ⟨hi26, h⟩ := h
      refine mm_iaload (N := n1) dX9_readImage_26 hr1 hi26 ?_
      refine mm_iadd dX9_readImage_27 ?_
      refine mm_putI (ci := 9) (N := 7) dX9_readImage_28 fX9_24 (sh_St ha) (by decide +kernel) rfl rfl rfl ?_
      refine mm_aload_n (j := 0) dX9_readImage_31 rfl rfl ?_
      refine mm_iconst (x := 0) dX9_readImage_32 rfl ?_
      refine mm_putI (ci := 9) (N := 7) dX9_readImage_33 fX9_33 (sh_St ha) (by decide +kernel) rfl rfl rfl ?_
      refine mm_aload_n (j := 0) dX9_readImage_36 rfl rfl ?_
      refine mm_iconst (x := 0) dX9_readImage_37 rfl ?_
      refine mm_putI (ci := 9) (N := 7) dX9_readImage_38 fX9_36 (sh_St ha) (by decide +kernel) rfl rfl rfl ?_
      refine mm_iconst (x := 2) dX9_readImage_41 rfl ?_
      refine mm_istore_n (lv' := [(3, .int 2), (0, .ref a), (1, .ref r1), (2, .int x2)]) dX9_readImage_42 rfl (by decide) rfl ?_
      refine mm_iconst (x := 0) dX9_readImage_43 rfl ?_
      refine mm_istore (lv' := [(4, .int 0), (3, .int 2), (0, .ref a), (1, .ref r1), (2, .int x2)]) dX9_readImage_44 (by decide) rfl ?_
      exact mm_sub [2, 3, 4, 1, 0] rfl h
    · rw [if_neg hc] at h
      exact mm_vret dX9_readImage_15 rfl (Nat.le_refl 0) (Nat.le_refl 0) ⟨rfl, rfl, hG, h⟩
set_option maxRecDepth 100000 in
set_option maxHeartbeats 4000000 in
theorem lX9_readImage_46 {d : Nat} {a : Nat} {r1 : Nat} {n1 : Nat} {x2 : Int32} {M : mm_M} {K : mm_M → Prop} {y2 : Int32} {y3 : Int32} {y4 : Int32} (ha : a ∈ mm_Sts) (hr1 : mm_SH[r1]? = some (0, n1)) (hG : mm_G M.2.2) (h : if y2 ≤ y4 then (jX9_readImage_103 d a r1 n1 x2 M K y2 y3 0) else (vp_in y3 n1 ∧ vp_in (y3 + 1) n1 ∧ vp_in y4 7 ∧ vp_in (y3 + 2) n1 ∧ vp_in y4 7 ∧ jX9_readImage_46 d a r1 n1 x2 (mm_uI (mm_uI (mm_uI M a 1 ((M.1 a 1) ||| ((M.1 r1 (y3).toNatClampNeg) <<< (y4 &&& 31)))) (a + 1) (y4).toNatClampNeg ((mm_uI M a 1 ((M.1 a 1) ||| ((M.1 r1 (y3).toNatClampNeg) <<< (y4 &&& 31)))).1 r1 (y3 + 1).toNatClampNeg)) (a + 2) (y4).toNatClampNeg ((mm_uI (mm_uI M a 1 ((M.1 a 1) ||| ((M.1 r1 (y3).toNatClampNeg) <<< (y4 &&& 31)))) (a + 1) (y4).toNatClampNeg ((mm_uI M a 1 ((M.1 a 1) ||| ((M.1 r1 (y3).toNatClampNeg) <<< (y4 &&& 31)))).1 r1 (y3 + 1).toNatClampNeg)).1 r1 (y3 + 2).toNatClampNeg)) K y2 (y3 + 3) (y4 + 1))) : jX9_readImage_46 d a r1 n1 x2 M K y2 y3 y4 := by
  unfold jX9_readImage_46
  refine mm_iload (j := 4) dX9_readImage_46 rfl ?_
  refine mm_iload_n (j := 2) dX9_readImage_48 rfl rfl ?_
  refine mm_icmp_ge (tgt := 100) dX9_readImage_49 (by decide) (fun hc => ?_) (fun hc => ?_)
  · rw [if_pos hc] at h
    refine mm_iconst (x := 0) dX9_readImage_100 rfl ?_
    refine mm_istore (lv' := [(4, .int 0), (0, .ref a), (1, .ref r1), (2, .int y2), (3, .int y3)]) dX9_readImage_101 (by decide) rfl ?_
    exact mm_sub [1, 2, 3, 4, 0] rfl h
  · rw [if_neg hc] at h
    refine mm_aload_n (j := 0) dX9_readImage_52 rfl rfl ?_
    refine mm_dup dX9_readImage_53 rfl ?_
    refine mm_getI (ci := 9) (N := 7) dX9_readImage_54 fX9_33 (sh_St ha) rfl ?_
    refine mm_aload_n (j := 1) dX9_readImage_57 rfl rfl ?_
    refine mm_iload_n (j := 3) dX9_readImage_58 rfl rfl ?_
    obtain ⟨hi59, h⟩ := h
    refine mm_iaload (N := n1) dX9_readImage_59 hr1 hi59 ?_
    refine mm_iload (j := 4) dX9_readImage_60 rfl ?_
    refine mm_ishl dX9_readImage_62 ?_
    refine mm_ior dX9_readImage_63 ?_
    refine mm_putI (ci := 9) (N := 7) dX9_readImage_64 fX9_33 (sh_St ha) (by decide +kernel) rfl rfl rfl ?_
    refine mm_aload_n (j := 0) dX9_readImage_67 rfl rfl ?_
    refine mm_getR (ci := 9) (N := 7) (r := a + 1) dX9_readImage_68 fX9_9 (sh_St ha) rfl (g_St_3 hG ha) ?_
    refine mm_iload (j := 4) dX9_readImage_71 rfl ?_
    refine mm_aload_n (j := 1) dX9_readImage_73 rfl rfl ?_
    refine mm_iload_n (j := 3) dX9_readImage_74 rfl rfl ?_
    refine mm_iconst (x := 1) dX9_readImage_75 rfl ?_
    refine mm_iadd dX9_readImage_76 ?_
    obtain ⟨hi77, h⟩ := h
    refine mm_iaload (N := n1) dX9_readImage_77 hr1 hi77 ?_
    obtain ⟨hi78, h⟩ := h
    refine mm_iastore (N := 7) dX9_readImage_78 (sh_St_1 ha) hi78 ?_
    refine mm_aload_n (j := 0) dX9_readImage_79 rfl rfl ?_
    refine mm_getR (ci := 9) (N := 7) (r := a + 2) dX9_readImage_80 fX9_15 (sh_St ha) rfl (g_St_4 hG ha) ?_
    refine mm_iload (j := 4) dX9_readImage_83 rfl ?_
    refine mm_aload_n (j := 1) dX9_readImage_85 rfl rfl ?_
    refine mm_iload_n (j := 3) dX9_readImage_86 rfl rfl ?_
    refine mm_iconst (x := 2) dX9_readImage_87 rfl ?_
    refine mm_iadd dX9_readImage_88 ?_
    obtain ⟨hi89, h⟩ := h
    refine mm_iaload (N := n1) dX9_readImage_89 hr1 hi89 ?_
    obtain ⟨hi90, h⟩ := h
    refine mm_iastore (N := 7) dX9_readImage_90 (sh_St_2 ha) hi90 ?_
    refine mm_iinc (j := 3) (v := y3 + 3) (lv' := [(3, .int (y3 + 3)), (0, .ref a), (1, .ref r1), (2, .int y2), (4, .int y4)]) dX9_readImage_91 rfl rfl (by decide) rfl ?_
    refine mm_iinc (j := 4) (v := y4 + 1) (lv' := [(4, .int (y4 + 1)), (3, .int (y3 + 3)), (0, .ref a), (1, .ref r1), (2, .int y2)]) dX9_readImage_94 rfl rfl (by decide) rfl ?_
    refine mm_goto (tgt := 46) dX9_readImage_97 (by decide) ?_
    exact mm_sub [2, 3, 4, 1, 0] rfl h
set_option maxRecDepth 100000 in
set_option maxHeartbeats 4000000 in
theorem lX9_readImage_103 {d : Nat} {a : Nat} {r1 : Nat} {n1 : Nat} {x2 : Int32} {M : mm_M} {K : mm_M → Prop} {y2 : Int32} {y3 : Int32} {y4 : Int32} (ha : a ∈ mm_Sts) (hr1 : mm_SH[r1]? = some (0, n1)) (hG : mm_G M.2.2) (h : if y2 ≤ y4 then (K M) else (jX9_readImage_115 d a r1 n1 x2 M K y2 y3 y4 (y4 + 1))) : jX9_readImage_103 d a r1 n1 x2 M K y2 y3 y4 := by
  unfold jX9_readImage_103
  refine mm_iload (j := 4) dX9_readImage_103 rfl ?_
  refine mm_iload_n (j := 2) dX9_readImage_105 rfl rfl ?_
  refine mm_icmp_ge (tgt := 147) dX9_readImage_106 (by decide) (fun hc => ?_) (fun hc => ?_)
  · rw [if_pos hc] at h
    exact mm_vret dX9_readImage_147 rfl (Nat.le_refl 0) (Nat.le_refl 0) ⟨rfl, rfl, hG, h⟩
  · rw [if_neg hc] at h
    refine mm_iload (j := 4) dX9_readImage_109 rfl ?_
    refine mm_iconst (x := 1) dX9_readImage_111 rfl ?_
    refine mm_iadd dX9_readImage_112 ?_
    refine mm_istore (lv' := [(5, .int (y4 + 1)), (0, .ref a), (1, .ref r1), (2, .int y2), (3, .int y3), (4, .int y4)]) dX9_readImage_113 (by decide) rfl ?_
    exact mm_sub [1, 2, 3, 4, 5, 0] rfl h
set_option maxRecDepth 100000 in
set_option maxHeartbeats 4000000 in
theorem lX9_readImage_115 {d : Nat} {a : Nat} {r1 : Nat} {n1 : Nat} {x2 : Int32} {M : mm_M} {K : mm_M → Prop} {y2 : Int32} {y3 : Int32} {y4 : Int32} {y5 : Int32} (ha : a ∈ mm_Sts) (hr1 : mm_SH[r1]? = some (0, n1)) (hG : mm_G M.2.2) (h : if y2 ≤ y5 then (jX9_readImage_103 d a r1 n1 x2 M K y2 y3 (y4 + 1)) else (vp_in y3 n1 ∧ mm_CV mX9_setHate d [.ref a, .int y4, .int y5, .int (M.1 r1 (y3).toNatClampNeg)] M (fun m129 => jX9_readImage_115 d a r1 n1 x2 m129 K y2 (y3 + 1) y4 (y5 + 1)))) : jX9_readImage_115 d a r1 n1 x2 M K y2 y3 y4 y5 := by
  unfold jX9_readImage_115
  refine mm_iload (j := 5) dX9_readImage_115 rfl ?_
  refine mm_iload_n (j := 2) dX9_readImage_117 rfl rfl ?_
  refine mm_icmp_ge (tgt := 141) dX9_readImage_118 (by decide) (fun hc => ?_) (fun hc => ?_)
  · rw [if_pos hc] at h
    refine mm_iinc (j := 4) (v := y4 + 1) (lv' := [(4, .int (y4 + 1)), (0, .ref a), (1, .ref r1), (2, .int y2), (3, .int y3), (5, .int y5)]) dX9_readImage_141 rfl rfl (by decide) rfl ?_
    refine mm_goto (tgt := 103) dX9_readImage_144 (by decide) ?_
    exact mm_sub [1, 2, 3, 4, 0] rfl h
  · rw [if_neg hc] at h
    refine mm_aload_n (j := 0) dX9_readImage_121 rfl rfl ?_
    refine mm_iload (j := 4) dX9_readImage_122 rfl ?_
    refine mm_iload (j := 5) dX9_readImage_124 rfl ?_
    refine mm_aload_n (j := 1) dX9_readImage_126 rfl rfl ?_
    refine mm_iload_n (j := 3) dX9_readImage_127 rfl rfl ?_
    obtain ⟨hi128, h⟩ := h
    refine mm_iaload (N := n1) dX9_readImage_128 hr1 hi128 ?_
    refine mm_kVV [.int y4, .int y5, .int (M.1 r1 (y3).toNatClampNeg)] dX9_readImage_129 kX9_53 rfl (sh_St ha) (by decide) (by decide) h (fun m129 hG h => ?_)
    refine mm_iinc (j := 3) (v := y3 + 1) (lv' := [(3, .int (y3 + 1)), (0, .ref a), (1, .ref r1), (2, .int y2), (4, .int y4), (5, .int y5)]) dX9_readImage_132 rfl rfl (by decide) rfl ?_
    refine mm_iinc (j := 5) (v := y5 + 1) (lv' := [(5, .int (y5 + 1)), (3, .int (y3 + 1)), (0, .ref a), (1, .ref r1), (2, .int y2), (4, .int y4)]) dX9_readImage_135 rfl rfl (by decide) rfl ?_
    refine mm_goto (tgt := 115) dX9_readImage_138 (by decide) ?_
    exact mm_sub [2, 3, 4, 1, 5, 0] rfl h
