def jX8_take_31 (d : Nat) (r1 : Nat) (n1 : Nat) (x2 : Int32) (x3 : Int32) (M : mm_M) (K : Int32 → mm_M → Prop) (y2 : Int32) (y3 : Int32) (y4 : Int32) : Prop := mm_W mX8_take (d + 1) 0 0 31 [(0, .ref 159), (1, .ref r1), (2, .int y2), (3, .int y3), (4, .int y4)] [] mm_SH M 0 0 (mm_PI K)
def jX8_take_67 (d : Nat) (r1 : Nat) (n1 : Nat) (x2 : Int32) (x3 : Int32) (M : mm_M) (K : Int32 → mm_M → Prop) (y2 : Int32) (y3 : Int32) (y4 : Int32) (u0 : Int32) : Prop := mm_W mX8_take (d + 1) 0 0 67 [(0, .ref 159), (1, .ref r1), (2, .int y2), (3, .int y3), (4, .int y4)] [.int u0] mm_SH M 0 0 (mm_PI K)
set_option maxRecDepth 100000 in
set_option maxHeartbeats 4000000 in
theorem rX8_take {d : Nat} {r1 : Nat} {n1 : Nat} {x2 : Int32} {x3 : Int32} {M : mm_M} {K : Int32 → mm_M → Prop} (hr1 : mm_SH[r1]? = some (0, n1)) (hG : mm_G M.2.2) (h : if x2 < 3 then (K 0 M) else (if (nI 48) < x2 then (K 0 M) else (if (nI n1) < x2 then (K 0 M) else (if (x2 - x2 / 3 * 3) = 0 then (jX8_take_31 d r1 n1 x2 x3 M K x2 x3 0) else (K 0 M))))) : mm_CI mX8_take (d + 1) [.ref 159, .ref r1, .int x2, .int x3] M K := by
  show mm_W mX8_take (d + 1) 0 0 0 [(0, .ref 159), (1, .ref r1), (2, .int x2), (3, .int x3)] [] mm_SH M 0 0 (mm_PI K)
  refine mm_iload_n (pc := 0) (j := 2) dX8_take_0 rfl rfl ?_
  refine mm_iconst (pc := 1) (x := 3) dX8_take_1 rfl ?_
  refine mm_icmp_lt (pc := 2) (tgt := 26) dX8_take_2 (by decide) (fun hc => ?_) (fun hc => ?_)
  · have h := mm_ift hc h
    refine mm_iconst (pc := 26) (x := 0) dX8_take_26 rfl ?_
    exact mm_zret (pc := 27) dX8_take_27 rfl rfl (Nat.le_refl 0) (Nat.le_refl 0) ⟨_, rfl, rfl, hG, h⟩
  · have h := mm_iff hc h
    refine mm_iload_n (pc := 5) (j := 2) dX8_take_5 rfl rfl ?_
    refine mm_aload_n (pc := 6) (j := 0) dX8_take_6 rfl rfl ?_
    refine mm_getR (pc := 7) (ci := 8) (N := 15) (r := 160) dX8_take_7 fX8_11 sh_159 rfl (g_159_7 hG) ?_
    refine mm_alen (pc := 10) (t := 0) (N := 48) dX8_take_10 sh_160 (by decide) ?_
    refine mm_icmp_gt (pc := 11) (tgt := 26) dX8_take_11 (by decide) (fun hc => ?_) (fun hc => ?_)
    · have h := mm_ift hc h
      refine mm_iconst (pc := 26) (x := 0) dX8_take_26 rfl ?_
      exact mm_zret (pc := 27) dX8_take_27 rfl rfl (Nat.le_refl 0) (Nat.le_refl 0) ⟨_, rfl, rfl, hG, h⟩
    · have h := mm_iff hc h
      refine mm_iload_n (pc := 14) (j := 2) dX8_take_14 rfl rfl ?_
      refine mm_aload_n (pc := 15) (j := 1) dX8_take_15 rfl rfl ?_
      refine mm_alen (pc := 16) (t := 0) (N := n1) dX8_take_16 hr1 (by decide) ?_
      refine mm_icmp_gt (pc := 17) (tgt := 26) dX8_take_17 (by decide) (fun hc => ?_) (fun hc => ?_)
      · have h := mm_ift hc h
        refine mm_iconst (pc := 26) (x := 0) dX8_take_26 rfl ?_
        exact mm_zret (pc := 27) dX8_take_27 rfl rfl (Nat.le_refl 0) (Nat.le_refl 0) ⟨_, rfl, rfl, hG, h⟩
      · have h := mm_iff hc h
        refine mm_iload_n (pc := 20) (j := 2) dX8_take_20 rfl rfl ?_
        refine mm_iconst (pc := 21) (x := 3) dX8_take_21 rfl ?_
        refine mm_irem (pc := 22) dX8_take_22 (by decide) ?_
        refine mm_if_eq (pc := 23) (tgt := 28) dX8_take_23 (by decide) (fun hc => ?_) (fun hc => ?_)
        · have h := mm_ift hc h
          refine mm_iconst (pc := 28) (x := 0) dX8_take_28 rfl ?_
          refine mm_istore (pc := 29) (lv' := [(4, .int 0), (0, .ref 159), (1, .ref r1), (2, .int x2), (3, .int x3)]) dX8_take_29 (by decide) rfl ?_
          exact mm_sub [1, 2, 3, 4, 0] rfl h
        · have h := mm_iff hc h
          refine mm_iconst (pc := 26) (x := 0) dX8_take_26 rfl ?_
          exact mm_zret (pc := 27) dX8_take_27 rfl rfl (Nat.le_refl 0) (Nat.le_refl 0) ⟨_, rfl, rfl, hG, h⟩
set_option maxRecDepth 100000 in
set_option maxHeartbeats 4000000 in
theorem lX8_take_31 {d : Nat} {r1 : Nat} {n1 : Nat} {x2 : Int32} {x3 : Int32} {M : mm_M} {K : Int32 → mm_M → Prop} {y2 : Int32} {y3 : Int32} {y4 : Int32} (hr1 : mm_SH[r1]? = some (0, n1)) (hG : mm_G M.2.2) (h : if y2 ≤ (y4 + 2) then ((¬ (0 : Int32) < 0 ∧ ¬ (0 : Int32) < 0 ∧ ¬ y2 < 0 ∧ (0 : Int32).toNatClampNeg + y2.toNatClampNeg ≤ n1 ∧ (0 : Int32).toNatClampNeg + y2.toNatClampNeg ≤ 48) ∧ K 1 (mm_uI (mm_cp M r1 160 (0 : Int32).toNatClampNeg (0 : Int32).toNatClampNeg y2.toNatClampNeg) 159 0 (y2 / 3))) else (vp_in (y4 + 2) n1 ∧ if (M.1 r1 (y4 + 2).toNatClampNeg) ≤ 99 then (jX8_take_67 d r1 n1 x2 x3 M K y2 y3 y4 1) else (vp_in (y4 + 2) n1 ∧ if (M.1 r1 (y4 + 2).toNatClampNeg) = 255 then (jX8_take_67 d r1 n1 x2 x3 M K y2 y3 y4 1) else (jX8_take_67 d r1 n1 x2 x3 M K y2 y3 y4 0)))) : jX8_take_31 d r1 n1 x2 x3 M K y2 y3 y4 := by
  unfold jX8_take_31
  refine mm_iload (pc := 31) (j := 4) dX8_take_31 rfl ?_
  refine mm_iconst (pc := 33) (x := 2) dX8_take_33 rfl ?_
  refine mm_iadd (pc := 34) dX8_take_34 ?_
  refine mm_iload_n (pc := 35) (j := 2) dX8_take_35 rfl rfl ?_
  refine mm_icmp_ge (pc := 36) (tgt := 101) dX8_take_36 (by decide) (fun hc => ?_) (fun hc => ?_)
  · have h := mm_ift hc h
    refine mm_aload_n (pc := 101) (j := 1) dX8_take_101 rfl rfl ?_
    refine mm_iconst (pc := 102) (x := 0) dX8_take_102 rfl ?_
    refine mm_aload_n (pc := 103) (j := 0) dX8_take_103 rfl rfl ?_
    refine mm_getR (pc := 104) (ci := 8) (N := 15) (r := 160) dX8_take_104 fX8_11 sh_159 rfl (g_159_7 hG) ?_
    refine mm_iconst (pc := 107) (x := 0) dX8_take_107 rfl ?_
    refine mm_iload_n (pc := 108) (j := 2) dX8_take_108 rfl rfl ?_
    obtain ⟨⟨hy1, hy2, hy3, hy4, hy5⟩, h⟩ := h
    refine mm_copy (pc := 109) (n0 := n1) (n1 := 48) dX8_take_109 kX8_32 ac_nat ac_sta ac_ini hr1 sh_160 hy1 hy2 hy3 hy4 hy5 (Nat.le_of_ble_eq_true rfl) ?_
    refine mm_aload_n (pc := 112) (j := 0) dX8_take_112 rfl rfl ?_
    refine mm_iload_n (pc := 113) (j := 2) dX8_take_113 rfl rfl ?_
    refine mm_iconst (pc := 114) (x := 3) dX8_take_114 rfl ?_
    refine mm_idiv (pc := 115) dX8_take_115 (by decide) ?_
    refine mm_putI (pc := 116) (ci := 8) (N := 15) dX8_take_116 fX8_38 sh_159 (by decide +kernel) rfl rfl rfl ?_
    refine mm_iconst (pc := 119) (x := 1) dX8_take_119 rfl ?_
    exact mm_zret (pc := 120) dX8_take_120 rfl rfl (Nat.le_refl 0) (Nat.le_refl 0) ⟨_, rfl, rfl, hG, h⟩
  · have h := mm_iff hc h
    refine mm_aload_n (pc := 39) (j := 1) dX8_take_39 rfl rfl ?_
    refine mm_iload (pc := 40) (j := 4) dX8_take_40 rfl ?_
    refine mm_iconst (pc := 42) (x := 2) dX8_take_42 rfl ?_
    refine mm_iadd (pc := 43) dX8_take_43 ?_
    obtain ⟨hi44, h⟩ := h
    refine mm_iaload (pc := 44) (N := n1) dX8_take_44 hr1 hi44 ?_
    refine mm_bipush (pc := 45) (x := 99) dX8_take_45 rfl ?_
    refine mm_icmp_le (pc := 47) (tgt := 62) dX8_take_47 (by decide) (fun hc => ?_) (fun hc => ?_)
    · have h := mm_ift hc h
      refine mm_iconst (pc := 62) (x := 1) dX8_take_62 rfl ?_
      refine mm_goto (pc := 63) (tgt := 67) dX8_take_63 (by decide) ?_
      exact h
    · have h := mm_iff hc h
      refine mm_aload_n (pc := 50) (j := 1) dX8_take_50 rfl rfl ?_
      refine mm_iload (pc := 51) (j := 4) dX8_take_51 rfl ?_
      refine mm_iconst (pc := 53) (x := 2) dX8_take_53 rfl ?_
      refine mm_iadd (pc := 54) dX8_take_54 ?_
      obtain ⟨hi55, h⟩ := h
      refine mm_iaload (pc := 55) (N := n1) dX8_take_55 hr1 hi55 ?_
      refine mm_sipush (pc := 56) (x := 255) dX8_take_56 rfl ?_
      refine mm_icmp_ne (pc := 59) (tgt := 66) dX8_take_59 (by decide) (fun hc => ?_) (fun hc => ?_)
      · have h := mm_iff hc h
        refine mm_iconst (pc := 66) (x := 0) dX8_take_66 rfl ?_
        exact h
      · have h := mm_ift hc h
        refine mm_iconst (pc := 62) (x := 1) dX8_take_62 rfl ?_
        refine mm_goto (pc := 63) (tgt := 67) dX8_take_63 (by decide) ?_
        exact h
set_option maxRecDepth 100000 in
set_option maxHeartbeats 4000000 in
theorem lX8_take_67 {d : Nat} {r1 : Nat} {n1 : Nat} {x2 : Int32} {x3 : Int32} {M : mm_M} {K : Int32 → mm_M → Prop} {y2 : Int32} {y3 : Int32} {y4 : Int32} {u0 : Int32} (hr1 : mm_SH[r1]? = some (0, n1)) (hG : mm_G M.2.2) (h : vp_in y4 n1 ∧ if 31 ≤ (M.1 r1 y4.toNatClampNeg) then (K 0 M) else (vp_in (y4 + 1) n1 ∧ if y3 ≤ (M.1 r1 (y4 + 1).toNatClampNeg) then (K 0 M) else (if u0 = 0 then (K 0 M) else (jX8_take_31 d r1 n1 x2 x3 M K y2 y3 (y4 + 3))))) : jX8_take_67 d r1 n1 x2 x3 M K y2 y3 y4 u0 := by
  unfold jX8_take_67
  refine mm_istore (pc := 67) (lv' := [(5, .int u0), (0, .ref 159), (1, .ref r1), (2, .int y2), (3, .int y3), (4, .int y4)]) dX8_take_67 (by decide) rfl ?_
  refine mm_aload_n (pc := 69) (j := 2) dX8_take_69 rfl rfl ?_
  refine mm_iload (pc := 70) (j := 5) dX8_take_70 rfl ?_
  obtain ⟨hi72, h⟩ := h
  refine mm_iaload (pc := 72) (N := n1) dX8_take_72 hr1 hi72 ?_
  refine mm_bipush (pc := 73) (x := 31) dX8_take_73 rfl ?_
  refine mm_icmp_ge (pc := 75) (tgt := 93) dX8_take_75 (by decide) (fun hc => ?_) (fun hc => ?_)
  · have h := mm_ift hc h
    refine mm_iconst (pc := 93) (x := 0) dX8_take_93 rfl ?_
    exact mm_zret (pc := 94) dX8_take_94 rfl rfl (Nat.le_refl 0) (Nat.le_refl 0) ⟨_, rfl, rfl, hG, h⟩
  · have h := mm_iff hc h
    refine mm_aload_n (pc := 78) (j := 2) dX8_take_78 rfl rfl ?_
    refine mm_iload (pc := 79) (j := 5) dX8_take_79 rfl ?_
    refine mm_iconst (pc := 81) (x := 1) dX8_take_81 rfl ?_
    refine mm_iadd (pc := 82) dX8_take_82 ?_
    obtain ⟨hi83, h⟩ := h
    refine mm_iaload (pc := 83) (N := n1) dX8_take_83 hr1 hi83 ?_
    refine mm_iload_n (pc := 84) (j := 4) dX8_take_84 rfl rfl ?_
    refine mm_icmp_ge (pc := 85) (tgt := 93) dX8_take_85 (by decide) (fun hc => ?_) (fun hc => ?_)
    · have h := mm_ift hc h
      refine mm_iconst (pc := 93) (x := 0) dX8_take_93 rfl ?_
      exact mm_zret (pc := 94) dX8_take_94 rfl rfl (Nat.le_refl 0) (Nat.le_refl 0) ⟨_, rfl, rfl, hG, h⟩
    · have h := mm_iff hc h
      refine mm_iload (pc := 88) (j := 0) dX8_take_88 rfl ?_
      refine mm_if_ne (pc := 90) (tgt := 95) dX8_take_90 (by decide) (fun hc => ?_) (fun hc => ?_)
      · have h := mm_iff hc h
        refine mm_iinc (pc := 95) (j := 5) (v := y4 + 3) (lv' := [(4, .int (y4 + 3)), (5, .int u0), (0, .ref 159), (1, .ref r1), (2, .int y2), (3, .int y3)]) dX8_take_95 rfl rfl (by decide) rfl ?_
        refine mm_goto (pc := 98) (tgt := 31) dX8_take_98 (by decide) ?_
        exact mm_sub [2, 3, 4, 5, 0] rfl h
      · have h := mm_ift hc h
        refine mm_iconst (pc := 93) (x := 0) dX8_take_93 rfl ?_
        exact mm_zret (pc := 94) dX8_take_94 rfl rfl (Nat.le_refl 0) (Nat.le_refl 0) ⟨_, rfl, rfl, hG, h⟩
def jX8_look_19 (d : Nat) (a2 : Nat) (a3 : Nat) (x4 : Int32) (x5 : Int32) (M : mm_M) (K : mm_M → Prop) (y4 : Int32) (y5 : Int32) : Prop := mm_W mX8_look (d + 1) 0 0 19 [(0, .ref 159), (1, .ref 21), (2, .ref a2), (3, .ref a3), (4, .int y4), (5, .int y5)] [] mm_SH M 0 0 (mm_PV K)
def jX8_look_55 (d : Nat) (a2 : Nat) (a3 : Nat) (x4 : Int32) (x5 : Int32) (M : mm_M) (K : mm_M → Prop) (y4 : Int32) (y6 : Int32) (y7 : Int32) : Prop := mm_W mX8_look (d + 1) 0 0 55 [(0, .ref 159), (1, .ref 21), (2, .ref a2), (3, .ref a3), (4, .int y4), (6, .int y6), (7, .int y7)] [] mm_SH M 0 0 (mm_PV K)
def jX8_look_97 (d : Nat) (a2 : Nat) (a3 : Nat) (x4 : Int32) (x5 : Int32) (M : mm_M) (K : mm_M → Prop) (y4 : Int32) (y6 : Int32) (y7 : Int32) (y8 : Int32) (u0 : Int32) (u1 : Int32) : Prop := mm_W mX8_look (d + 1) 0 0 97 [(0, .ref 159), (1, .ref 21), (2, .ref a2), (3, .ref a3), (4, .int y4), (6, .int y6), (7, .int y7), (8, .int y8)] [.int u0, .int u1, .ref 161] mm_SH M 0 0 (mm_PV K)
set_option maxRecDepth 100000 in
set_option maxHeartbeats 4000000 in
theorem rX8_look {d : Nat} {a2 : Nat} {a3 : Nat} {x4 : Int32} {x5 : Int32} {M : mm_M} {K : mm_M → Prop} (ha2 : a2 ∈ mm_Sts) (ha3 : a3 ∈ mm_Sts) (hG : mm_G M.2.2) (h : if (M.1 159 11) = x5 then (if (M.1 159 12) = x4 then (K M) else (jX8_look_19 d a2 a3 x4 x5 M K x4 x5)) else (jX8_look_19 d a2 a3 x4 x5 M K x4 x5)) : mm_CV mX8_look (d + 1) [.ref 159, .ref 21, .ref a2, .ref a3, .int x4, .int x5] M K := by
  show mm_W mX8_look (d + 1) 0 0 0 [(0, .ref 159), (1, .ref 21), (2, .ref a2), (3, .ref a3), (4, .int x4), (5, .int x5)] [] mm_SH M 0 0 (mm_PV K)
  refine mm_aload_n (pc := 0) (j := 0) dX8_look_0 rfl rfl ?_
  refine mm_getI (pc := 1) (ci := 8) (N := 15) dX8_look_1 fX8_25 sh_159 rfl ?_
  refine mm_iload (pc := 4) (j := 5) dX8_look_4 rfl ?_
  refine mm_icmp_ne (pc := 6) (tgt := 19) dX8_look_6 (by decide) (fun hc => ?_) (fun hc => ?_)
  · have h := mm_iff hc h
    exact h
  · have h := mm_ift hc h
    refine mm_aload_n (pc := 9) (j := 0) dX8_look_9 rfl rfl ?_
    refine mm_getI (pc := 10) (ci := 8) (N := 15) dX8_look_10 fX8_41 sh_159 rfl ?_
    refine mm_iload (pc := 13) (j := 4) dX8_look_13 rfl ?_
    refine mm_icmp_ne (pc := 15) (tgt := 19) dX8_look_15 (by decide) (fun hc => ?_) (fun hc => ?_)
    · have h := mm_iff hc h
      exact h
    · have h := mm_ift hc h
      exact mm_vret (pc := 18) dX8_look_18 rfl (Nat.le_refl 0) (Nat.le_refl 0) ⟨rfl, rfl, hG, h⟩
set_option maxRecDepth 100000 in
set_option maxHeartbeats 4000000 in
theorem lX8_look_19 {d : Nat} {a2 : Nat} {a3 : Nat} {x4 : Int32} {x5 : Int32} {M : mm_M} {K : mm_M → Prop} {y4 : Int32} {y5 : Int32} (ha2 : a2 ∈ mm_Sts) (ha3 : a3 ∈ mm_Sts) (hG : mm_G M.2.2) (h : mm_CI mX8_daysSeen d [.ref 159] (mm_uI (mm_uI (mm_uI (mm_uI (mm_uI M 159 11 y5) 159 12 y4) 159 1 0) 159 2 (-1)) 159 3 (-1)) (fun z47 m47 => jX8_look_55 d a2 a3 x4 x5 m47 K y4 z47 0)) : jX8_look_19 d a2 a3 x4 x5 M K y4 y5 := by
  unfold jX8_look_19
  refine mm_aload_n (pc := 19) (j := 0) dX8_look_19 rfl rfl ?_
  refine mm_iload (pc := 20) (j := 5) dX8_look_20 rfl ?_
  refine mm_putI (pc := 22) (ci := 8) (N := 15) dX8_look_22 fX8_25 sh_159 (by decide +kernel) rfl rfl rfl ?_
  refine mm_aload_n (pc := 25) (j := 0) dX8_look_25 rfl rfl ?_
  refine mm_iload (pc := 26) (j := 4) dX8_look_26 rfl ?_
  refine mm_putI (pc := 28) (ci := 8) (N := 15) dX8_look_28 fX8_41 sh_159 (by decide +kernel) rfl rfl rfl ?_
  refine mm_aload_n (pc := 31) (j := 0) dX8_look_31 rfl rfl ?_
  refine mm_iconst (pc := 32) (x := 0) dX8_look_32 rfl ?_
  refine mm_putI (pc := 33) (ci := 8) (N := 15) dX8_look_33 fX8_44 sh_159 (by decide +kernel) rfl rfl rfl ?_
  refine mm_aload_n (pc := 36) (j := 0) dX8_look_36 rfl rfl ?_
  refine mm_iconst (pc := 37) (x := (-1)) dX8_look_37 rfl ?_
  refine mm_putI (pc := 38) (ci := 8) (N := 15) dX8_look_38 fX8_47 sh_159 (by decide +kernel) rfl rfl rfl ?_
  refine mm_aload_n (pc := 41) (j := 0) dX8_look_41 rfl rfl ?_
  refine mm_iconst (pc := 42) (x := (-1)) dX8_look_42 rfl ?_
  refine mm_putI (pc := 43) (ci := 8) (N := 15) dX8_look_43 fX8_50 sh_159 (by decide +kernel) rfl rfl rfl ?_
  refine mm_aload_n (pc := 46) (j := 0) dX8_look_46 rfl rfl ?_
  refine mm_kVI (pc := 47) [] dX8_look_47 kX8_53 rfl sh_159 (Nat.le_of_ble_eq_true rfl) (Nat.le_of_ble_eq_true rfl) h (fun z47 m47 hG h => ?_)
  refine mm_istore (pc := 50) (lv' := [(6, .int z47), (0, .ref 159), (1, .ref 21), (2, .ref a2), (3, .ref a3), (4, .int y4), (5, .int y5)]) dX8_look_50 (by decide) rfl ?_
  refine mm_iconst (pc := 52) (x := 0) dX8_look_52 rfl ?_
  refine mm_istore (pc := 53) (lv' := [(7, .int 0), (6, .int z47), (0, .ref 159), (1, .ref 21), (2, .ref a2), (3, .ref a3), (4, .int y4), (5, .int y5)]) dX8_look_53 (by decide) rfl ?_
  exact mm_sub [2, 3, 4, 5, 6, 1, 0] rfl h
set_option maxRecDepth 100000 in
set_option maxHeartbeats 4000000 in
theorem lX8_look_55 {d : Nat} {a2 : Nat} {a3 : Nat} {x4 : Int32} {x5 : Int32} {M : mm_M} {K : mm_M → Prop} {y4 : Int32} {y6 : Int32} {y7 : Int32} (ha2 : a2 ∈ mm_Sts) (ha3 : a3 ∈ mm_Sts) (hG : mm_G M.2.2) (h : if 100 ≤ y7 then (K M) else (mm_CV mX8_suppose d [.ref a2, .ref a3, .int y4, .int y7] M (fun m68 => mm_CI mX8_allIsSo d [.ref 159, .ref 21, .ref a3, .int y6] m68 (fun z76 m76 => if z76 = 0 then (jX8_look_97 d a2 a3 x4 x5 m76 K y4 y6 y7 z76 0 y7) else (jX8_look_97 d a2 a3 x4 x5 m76 K y4 y6 y7 z76 1 y7))))) : jX8_look_55 d a2 a3 x4 x5 M K y4 y6 y7 := by
  unfold jX8_look_55
  refine mm_iload (pc := 55) (j := 6) dX8_look_55 rfl ?_
  refine mm_bipush (pc := 57) (x := 100) dX8_look_57 rfl ?_
  refine mm_icmp_ge (pc := 59) (tgt := 146) dX8_look_59 (by decide) (fun hc => ?_) (fun hc => ?_)
  · have h := mm_ift hc h
    exact mm_vret (pc := 146) dX8_look_146 rfl (Nat.le_refl 0) (Nat.le_refl 0) ⟨rfl, rfl, hG, h⟩
  · have h := mm_iff hc h
    refine mm_aload_n (pc := 62) (j := 2) dX8_look_62 rfl rfl ?_
    refine mm_aload_n (pc := 63) (j := 3) dX8_look_63 rfl rfl ?_
    refine mm_iload (pc := 64) (j := 4) dX8_look_64 rfl ?_
    refine mm_iload (pc := 66) (j := 6) dX8_look_66 rfl ?_
    refine mm_kSV (pc := 68) [.ref a2, .ref a3, .int y4, .int y7] dX8_look_68 kX8_57 rfl (Nat.le_of_ble_eq_true rfl) (Nat.le_of_ble_eq_true rfl) h (fun m68 hG h => ?_)
    refine mm_aload_n (pc := 71) (j := 0) dX8_look_71 rfl rfl ?_
    refine mm_aload_n (pc := 72) (j := 1) dX8_look_72 rfl rfl ?_
    refine mm_aload_n (pc := 73) (j := 3) dX8_look_73 rfl rfl ?_
    refine mm_iload (pc := 74) (j := 5) dX8_look_74 rfl ?_
    refine mm_kVI (pc := 76) [.ref 21, .ref a3, .int y6] dX8_look_76 kX8_61 rfl sh_159 (Nat.le_of_ble_eq_true rfl) (Nat.le_of_ble_eq_true rfl) h (fun z76 m76 hG h => ?_)
    refine mm_istore (pc := 79) (lv' := [(8, .int z76), (0, .ref 159), (1, .ref 21), (2, .ref a2), (3, .ref a3), (4, .int y4), (6, .int y6), (7, .int y7)]) dX8_look_79 (by decide) rfl ?_
    refine mm_aload_n (pc := 81) (j := 1) dX8_look_81 rfl rfl ?_
    refine mm_getR (pc := 82) (ci := 8) (N := 15) (r := 161) dX8_look_82 fX8_15 sh_159 rfl (g_159_8 hG) ?_
    refine mm_iload (pc := 85) (j := 7) dX8_look_85 rfl ?_
    refine mm_iload (pc := 87) (j := 0) dX8_look_87 rfl ?_
    refine mm_if_eq (pc := 89) (tgt := 96) dX8_look_89 (by decide) (fun hc => ?_) (fun hc => ?_)
    · have h := mm_ift hc h
      refine mm_iconst (pc := 96) (x := 0) dX8_look_96 rfl ?_
      exact mm_sub [1, 2, 3, 4, 5, 6, 7, 0] rfl h
    · have h := mm_iff hc h
      refine mm_iconst (pc := 92) (x := 1) dX8_look_92 rfl ?_
      refine mm_goto (pc := 93) (tgt := 97) dX8_look_93 (by decide) ?_
      exact mm_sub [1, 2, 3, 4, 5, 6, 7, 0] rfl h
set_option maxRecDepth 100000 in
set_option maxHeartbeats 4000000 in
theorem lX8_look_97 {d : Nat} {a2 : Nat} {a3 : Nat} {x4 : Int32} {x5 : Int32} {M : mm_M} {K : mm_M → Prop} {y4 : Int32} {y6 : Int32} {y7 : Int32} {y8 : Int32} {u0 : Int32} {u1 : Int32} (ha2 : a2 ∈ mm_Sts) (ha3 : a3 ∈ mm_Sts) (hG : mm_G M.2.2) (h : vp_in u1 100 ∧ if y8 = 0 then (jX8_look_55 d a2 a3 x4 x5 (mm_uI M 161 u1.toNatClampNeg u0) K y4 y6 (y7 + 1)) else (if ((mm_uI (mm_uI M 161 u1.toNatClampNeg u0) 159 1 (((mm_uI M 161 u1.toNatClampNeg u0).1 159 1) + 1)).1 159 2) = (-1) then (jX8_look_55 d a2 a3 x4 x5 (mm_uI (mm_uI (mm_uI (mm_uI M 161 u1.toNatClampNeg u0) 159 1 (((mm_uI M 161 u1.toNatClampNeg u0).1 159 1) + 1)) 159 2 y7) 159 3 y7) K y4 y6 (y7 + 1)) else (jX8_look_55 d a2 a3 x4 x5 (mm_uI (mm_uI (mm_uI (mm_uI M 161 u1.toNatClampNeg u0) 159 1 (((mm_uI M 161 u1.toNatClampNeg u0).1 159 1) + 1)) 159 2 ((mm_uI (mm_uI M 161 u1.toNatClampNeg u0) 159 1 (((mm_uI M 161 u1.toNatClampNeg u0).1 159 1) + 1)).1 159 2)) 159 3 y7) K y4 y6 (y7 + 1)))) : jX8_look_97 d a2 a3 x4 x5 M K y4 y6 y7 y8 u0 u1 := by
  unfold jX8_look_97
  obtain ⟨hi97, h⟩ := h
  refine mm_iastore (pc := 97) (N := 100) dX8_look_97 sh_161 hi97 ?_
  refine mm_iload (pc := 98) (j := 7) dX8_look_98 rfl ?_
  refine mm_if_eq (pc := 100) (tgt := 140) dX8_look_100 (by decide) (fun hc => ?_) (fun hc => ?_)
  · have h := mm_ift hc h
    refine mm_iinc (pc := 140) (j := 6) (v := y7 + 1) (lv' := [(7, .int (y7 + 1)), (0, .ref 159), (1, .ref 21), (2, .ref a2), (3, .ref a3), (4, .int y4), (6, .int y6), (8, .int y8)]) dX8_look_140 rfl rfl (by decide) rfl ?_
    refine mm_goto (pc := 143) (tgt := 55) dX8_look_143 (by decide) ?_
    exact mm_sub [1, 2, 3, 4, 5, 6, 0] rfl h
  · have h := mm_iff hc h
    refine mm_aload_n (pc := 103) (j := 0) dX8_look_103 rfl rfl ?_
    refine mm_dup (pc := 104) dX8_look_104 rfl ?_
    refine mm_getI (pc := 105) (ci := 8) (N := 15) dX8_look_105 fX8_44 sh_159 rfl ?_
    refine mm_iconst (pc := 108) (x := 1) dX8_look_108 rfl ?_
    refine mm_iadd (pc := 109) dX8_look_109 ?_
    refine mm_putI (pc := 110) (ci := 8) (N := 15) dX8_look_110 fX8_44 sh_159 (by decide +kernel) rfl rfl rfl ?_
    refine mm_aload_n (pc := 113) (j := 0) dX8_look_113 rfl rfl ?_
    refine mm_aload_n (pc := 114) (j := 0) dX8_look_114 rfl rfl ?_
    refine mm_getI (pc := 115) (ci := 8) (N := 15) dX8_look_115 fX8_47 sh_159 rfl ?_
    refine mm_iconst (pc := 118) (x := (-1)) dX8_look_118 rfl ?_
    refine mm_icmp_ne (pc := 119) (tgt := 127) dX8_look_119 (by decide) (fun hc => ?_) (fun hc => ?_)
    · have h := mm_iff hc h
      refine mm_aload_n (pc := 127) (j := 0) dX8_look_127 rfl rfl ?_
      refine mm_getI (pc := 128) (ci := 8) (N := 15) dX8_look_128 fX8_47 sh_159 rfl ?_
      refine mm_putI (pc := 131) (ci := 8) (N := 15) dX8_look_131 fX8_47 sh_159 (by decide +kernel) rfl rfl rfl ?_
      refine mm_aload_n (pc := 134) (j := 0) dX8_look_134 rfl rfl ?_
      refine mm_iload (pc := 135) (j := 6) dX8_look_135 rfl ?_
      refine mm_putI (pc := 137) (ci := 8) (N := 15) dX8_look_137 fX8_50 sh_159 (by decide +kernel) rfl rfl rfl ?_
      refine mm_iinc (pc := 140) (j := 6) (v := y7 + 1) (lv' := [(7, .int (y7 + 1)), (0, .ref 159), (1, .ref 21), (2, .ref a2), (3, .ref a3), (4, .int y4), (6, .int y6), (8, .int y8)]) dX8_look_140 rfl rfl (by decide) rfl ?_
      refine mm_goto (pc := 143) (tgt := 55) dX8_look_143 (by decide) ?_
      exact mm_sub [1, 2, 3, 4, 5, 6, 0] rfl h
    · have h := mm_ift hc h
      refine mm_iload (pc := 122) (j := 6) dX8_look_122 rfl ?_
      refine mm_goto (pc := 124) (tgt := 131) dX8_look_124 (by decide) ?_
      refine mm_putI (pc := 131) (ci := 8) (N := 15) dX8_look_131 fX8_47 sh_159 (by decide +kernel) rfl rfl rfl ?_
      refine mm_aload_n (pc := 134) (j := 0) dX8_look_134 rfl rfl ?_
      refine mm_iload (pc := 135) (j := 6) dX8_look_135 rfl ?_
      refine mm_putI (pc := 137) (ci := 8) (N := 15) dX8_look_137 fX8_50 sh_159 (by decide +kernel) rfl rfl rfl ?_
      refine mm_iinc (pc := 140) (j := 6) (v := y7 + 1) (lv' := [(7, .int (y7 + 1)), (0, .ref 159), (1, .ref 21), (2, .ref a2), (3, .ref a3), (4, .int y4), (6, .int y6), (8, .int y8)]) dX8_look_140 rfl rfl (by decide) rfl ?_
      refine mm_goto (pc := 143) (tgt := 55) dX8_look_143 (by decide) ?_
      exact mm_sub [1, 2, 3, 4, 5, 6, 0] rfl h
def jX8_daysSeen_4 (d : Nat) (M : mm_M) (K : Int32 → mm_M → Prop) (y1 : Int32) (y2 : Int32) : Prop := mm_W mX8_daysSeen (d + 1) 0 0 4 [(0, .ref 159), (1, .int y1), (2, .int y2)] [] mm_SH M 0 0 (mm_PI K)
set_option maxRecDepth 100000 in
set_option maxHeartbeats 4000000 in
theorem rX8_daysSeen {d : Nat} {M : mm_M} {K : Int32 → mm_M → Prop} (hG : mm_G M.2.2) (h : jX8_daysSeen_4 d M K 0 0) : mm_CI mX8_daysSeen (d + 1) [.ref 159] M K := by
  show mm_W mX8_daysSeen (d + 1) 0 0 0 [(0, .ref 159)] [] mm_SH M 0 0 (mm_PI K)
  refine mm_iconst (pc := 0) (x := 0) dX8_daysSeen_0 rfl ?_
  refine mm_istore_n (pc := 1) (lv' := [(1, .int 0), (0, .ref 159)]) dX8_daysSeen_1 rfl (by decide) rfl ?_
  refine mm_iconst (pc := 2) (x := 0) dX8_daysSeen_2 rfl ?_
  refine mm_istore_n (pc := 3) (lv' := [(2, .int 0), (1, .int 0), (0, .ref 159)]) dX8_daysSeen_3 rfl (by decide) rfl ?_
  exact mm_sub [2, 1, 0] rfl h
set_option maxRecDepth 100000 in
set_option maxHeartbeats 4000000 in
theorem lX8_daysSeen_4 {d : Nat} {M : mm_M} {K : Int32 → mm_M → Prop} {y1 : Int32} {y2 : Int32} (hG : mm_G M.2.2) (h : if (M.1 159 0) ≤ y2 then (K y1 M) else (if 16 ≤ y2 then (K y1 M) else (vp_in (3 * y2) 48 ∧ jX8_daysSeen_4 d M K (if y1 < ((M.1 160 (3 * y2).toNatClampNeg) + 1) then ((M.1 160 (3 * y2).toNatClampNeg) + 1) else y1) (y2 + 1)))) : jX8_daysSeen_4 d  M K y1 y2 := by
  unfold jX8_daysSeen_4
  refine mm_iload_n (pc := 4) (j := 2) dX8_daysSeen_4 rfl rfl ?_
  refine mm_aload_n (pc := 5) (j := 0) dX8_daysSeen_5 rfl rfl ?_
  refine mm_getI (pc := 6) (ci := 8) (N := 15) dX8_daysSeen_6 fX8_38 sh_159 rfl ?_
  refine mm_icmp_ge (pc := 9) (tgt := 39) dX8_daysSeen_9 (by decide) (fun hc => ?_) (fun hc => ?_)
  · have h := mm_ift hc h
    refine mm_iload_n (pc := 39) (j := 1) dX8_daysSeen_39 rfl rfl ?_
    exact mm_iret (pc := 40) dX8_daysSeen_40 rfl (Nat.le_refl 0) (Nat.le_refl 0) ⟨_, rfl, rfl, hG, h⟩
  · have h := mm_iff hc h
    refine mm_iload_n (pc := 12) (j := 2) dX8_daysSeen_12 rfl rfl ?_
    refine mm_bipush (pc := 13) (x := 16) dX8_daysSeen_13 rfl ?_
    refine mm_icmp_ge (pc := 15) (tgt := 39) dX8_daysSeen_15 (by decide) (fun hc => ?_) (fun hc => ?_)
    · have h := mm_ift hc h
      refine mm_iload_n (pc := 39) (j := 1) dX8_daysSeen_39 rfl rfl ?_
      exact mm_iret (pc := 40) dX8_daysSeen_40 rfl (Nat.le_refl 0) (Nat.le_refl 0) ⟨_, rfl, rfl, hG, h⟩
    · have h := mm_iff hc h
      refine mm_iload_n (pc := 18) (j := 1) dX8_daysSeen_18 rfl rfl ?_
      refine mm_aload_n (pc := 19) (j := 0) dX8_daysSeen_19 rfl rfl ?_
      refine mm_getR (pc := 20) (ci := 8) (N := 15) (r := 160) dX8_daysSeen_20 fX8_11 sh_159 rfl (g_159_7 hG) ?_
      refine mm_iconst (pc := 23) (x := 3) dX8_daysSeen_23 rfl ?_
      refine mm_iload_n (pc := 24) (j := 2) dX8_daysSeen_24 rfl rfl ?_
      refine mm_imul (pc := 25) dX8_daysSeen_25 ?_
      obtain ⟨hi26, h⟩ := h
      refine mm_iaload (pc := 26) (N := 48) dX8_daysSeen_26 sh_160 hi26 ?_
      refine mm_iconst (pc := 27) (x := 1) dX8_daysSeen_27 rfl ?_
      refine mm_iadd (pc := 28) dX8_daysSeen_28 ?_
      refine mm_mmax (pc := 29) dX8_daysSeen_29 kX8_65 ma_max_s ma_ini ma_max_c (Nat.le_of_ble_eq_true rfl) (Nat.le_refl 0) (Nat.le_refl 0) ?_
      refine mm_istore_n (pc := 32) (lv' := [(1, .int (if y1 < ((M.1 160 (3 * y2).toNatClampNeg) + 1) then ((M.1 160 (3 * y2).toNatClampNeg) + 1) else y1)), (0, .ref 159), (2, .int y2)]) dX8_daysSeen_32 rfl (by decide) rfl ?_
      refine mm_iinc (pc := 33) (j := 2) (v := y2 + 1) (lv' := [(2, .int (y2 + 1)), (1, .int (if y1 < ((M.1 160 (3 * y2).toNatClampNeg) + 1) then ((M.1 160 (3 * y2).toNatClampNeg) + 1) else y1)), (0, .ref 159)]) dX8_daysSeen_33 rfl rfl (by decide) rfl ?_
      refine mm_goto (pc := 36) (tgt := 4) dX8_daysSeen_36 (by decide) ?_
      exact mm_sub [2, 1, 0] rfl h
set_option maxRecDepth 100000 in
set_option maxHeartbeats 4000000 in
theorem rX8_suppose {d : Nat} {a0 : Nat} {a1 : Nat} {x2 : Int32} {x3 : Int32} {M : mm_M} {K : mm_M → Prop} (ha0 : a0 ∈ mm_Sts) (ha1 : a1 ∈ mm_Sts) (hG : mm_G M.2.2) (h : mm_CV mX9_copyFrom d [.ref a1, .ref a0] M (fun m2 => if x2 < 0 then (K m2) else (if 7 ≤ x2 then (K m2) else (vp_in x2 7 ∧ K (mm_uI m2 (a1 + 1) x2.toNatClampNeg x3))))) : mm_CV mX8_suppose (d + 1) [.ref a0, .ref a1, .int x2, .int x3] M K := by
  show mm_W mX8_suppose (d + 1) 0 0 0 [(0, .ref a0), (1, .ref a1), (2, .int x2), (3, .int x3)] [] mm_SH M 0 0 (mm_PV K)
  refine mm_aload_n (pc := 0) (j := 1) dX8_suppose_0 rfl rfl ?_
  refine mm_aload_n (pc := 1) (j := 0) dX8_suppose_1 rfl rfl ?_
  refine mm_kVV (pc := 2) [.ref a0] dX8_suppose_2 kX8_71 rfl (sh_St ha1) (Nat.le_of_ble_eq_true rfl) (Nat.le_of_ble_eq_true rfl) h (fun m2 hG h => ?_)
  refine mm_iload_n (pc := 5) (j := 2) dX8_suppose_5 rfl rfl ?_
  refine mm_if_lt (pc := 6) (tgt := 22) dX8_suppose_6 (by decide) (fun hc => ?_) (fun hc => ?_)
  · have h := mm_ift hc h
    exact mm_vret (pc := 22) dX8_suppose_22 rfl (Nat.le_refl 0) (Nat.le_refl 0) ⟨rfl, rfl, hG, h⟩
  · have h := mm_iff hc h
    refine mm_iload_n (pc := 9) (j := 2) dX8_suppose_9 rfl rfl ?_
    refine mm_bipush (pc := 10) (x := 7) dX8_suppose_10 rfl ?_
    refine mm_icmp_ge (pc := 12) (tgt := 22) dX8_suppose_12 (by decide) (fun hc => ?_) (fun hc => ?_)
    · have h := mm_ift hc h
      exact mm_vret (pc := 22) dX8_suppose_22 rfl (Nat.le_refl 0) (Nat.le_refl 0) ⟨rfl, rfl, hG, h⟩
    · have h := mm_iff hc h
      refine mm_aload_n (pc := 15) (j := 1) dX8_suppose_15 rfl rfl ?_
      refine mm_getR (pc := 16) (ci := 9) (N := 7) (r := a1 + 1) dX8_suppose_16 fX8_77 (sh_St ha1) rfl (g_St_3 hG ha1) ?_
      refine mm_iload_n (pc := 19) (j := 2) dX8_suppose_19 rfl rfl ?_
      refine mm_iload_n (pc := 20) (j := 3) dX8_suppose_20 rfl rfl ?_
      obtain ⟨hi21, h⟩ := h
      refine mm_iastore (pc := 21) (N := 7) dX8_suppose_21 (sh_St_1 ha1) hi21 ?_
      exact mm_vret (pc := 22) dX8_suppose_22 rfl (Nat.le_refl 0) (Nat.le_refl 0) ⟨rfl, rfl, hG, h⟩
def jX8_allIsSo_3 (d : Nat) (a2 : Nat) (x3 : Int32) (M : mm_M) (K : Int32 → mm_M → Prop) (y3 : Int32) (y4 : Int32) : Prop := mm_W mX8_allIsSo (d + 1) 0 0 3 [(0, .ref 159), (1, .ref 21), (2, .ref a2), (3, .int y3), (4, .int y4)] [] mm_SH M 0 0 (mm_PI K)
def jX8_allIsSo_31 (d : Nat) (a2 : Nat) (x3 : Int32) (M : mm_M) (K : Int32 → mm_M → Prop) (y3 : Int32) (y4 : Int32) (y5 : Int32) : Prop := mm_W mX8_allIsSo (d + 1) 0 0 31 [(0, .ref 159), (1, .ref 21), (2, .ref a2), (3, .int y3), (4, .int y4), (5, .int y5)] [] mm_SH M 0 0 (mm_PI K)
set_option maxRecDepth 100000 in
set_option maxHeartbeats 4000000 in
theorem rX8_allIsSo {d : Nat} {a2 : Nat} {x3 : Int32} {M : mm_M} {K : Int32 → mm_M → Prop} (ha2 : a2 ∈ mm_Sts) (hG : mm_G M.2.2) (h : jX8_allIsSo_3 d a2 x3 M K x3 0) : mm_CI mX8_allIsSo (d + 1) [.ref 159, .ref 21, .ref a2, .int x3] M K := by
  show mm_W mX8_allIsSo (d + 1) 0 0 0 [(0, .ref 159), (1, .ref 21), (2, .ref a2), (3, .int x3)] [] mm_SH M 0 0 (mm_PI K)
  refine mm_iconst (pc := 0) (x := 0) dX8_allIsSo_0 rfl ?_
  refine mm_istore (pc := 1) (lv' := [(4, .int 0), (0, .ref 159), (1, .ref 21), (2, .ref a2), (3, .int x3)]) dX8_allIsSo_1 (by decide) rfl ?_
  exact mm_sub [1, 2, 3, 4, 0] rfl h
set_option maxRecDepth 100000 in
set_option maxHeartbeats 4000000 in
theorem lX8_allIsSo_3 {d : Nat} {a2 : Nat} {x3 : Int32} {M : mm_M} {K : Int32 → mm_M → Prop} {y3 : Int32} {y4 : Int32} (ha2 : a2 ∈ mm_Sts) (hG : mm_G M.2.2) (h : if y3 ≤ y4 then (K 1 M) else (if (M.1 a2 0) < 999 then (mm_CV mX1_run d [.ref 21, .ref a2, .int 0, .int 1] M (fun m25 => jX8_allIsSo_31 d a2 x3 m25 K y3 y4 0)) else (K 0 M))) : jX8_allIsSo_3 d a2 x3 M K y3 y4 := by
  unfold jX8_allIsSo_3
  refine mm_iload (pc := 3) (j := 4) dX8_allIsSo_3 rfl ?_
  refine mm_iload_n (pc := 5) (j := 3) dX8_allIsSo_5 rfl rfl ?_
  refine mm_icmp_ge (pc := 6) (tgt := 121) dX8_allIsSo_6 (by decide) (fun hc => ?_) (fun hc => ?_)
  · have h := mm_ift hc h
    refine mm_iconst (pc := 121) (x := 1) dX8_allIsSo_121 rfl ?_
    exact mm_zret (pc := 122) dX8_allIsSo_122 rfl rfl (Nat.le_refl 0) (Nat.le_refl 0) ⟨_, rfl, rfl, hG, h⟩
  · have h := mm_iff hc h
    refine mm_aload_n (pc := 9) (j := 2) dX8_allIsSo_9 rfl rfl ?_
    refine mm_getI (pc := 10) (ci := 9) (N := 7) dX8_allIsSo_10 fX8_80 (sh_St ha2) rfl ?_
    refine mm_sipush (pc := 13) (x := 999) dX8_allIsSo_13 rfl ?_
    refine mm_icmp_lt (pc := 16) (tgt := 21) dX8_allIsSo_16 (by decide) (fun hc => ?_) (fun hc => ?_)
    · have h := mm_ift hc h
      refine mm_aload_n (pc := 21) (j := 1) dX8_allIsSo_21 rfl rfl ?_
      refine mm_aload_n (pc := 22) (j := 2) dX8_allIsSo_22 rfl rfl ?_
      refine mm_iconst (pc := 23) (x := 0) dX8_allIsSo_23 rfl ?_
      refine mm_iconst (pc := 24) (x := 1) dX8_allIsSo_24 rfl ?_
      refine mm_kVV (pc := 25) [.ref a2, .int 0, .int 1] dX8_allIsSo_25 kX8_83 rfl sh_21 (Nat.le_of_ble_eq_true rfl) (Nat.le_of_ble_eq_true rfl) h (fun m25 hG h => ?_)
      refine mm_iconst (pc := 28) (x := 0) dX8_allIsSo_28 rfl ?_
      refine mm_istore (pc := 29) (lv' := [(5, .int 0), (0, .ref 159), (1, .ref 21), (2, .ref a2), (3, .int y3), (4, .int y4)]) dX8_allIsSo_29 (by decide) rfl ?_
      exact mm_sub [1, 2, 3, 4, 5, 0] rfl h
    · have h := mm_iff hc h
      refine mm_iconst (pc := 19) (x := 0) dX8_allIsSo_19 rfl ?_
      exact mm_zret (pc := 20) dX8_allIsSo_20 rfl rfl (Nat.le_refl 0) (Nat.le_refl 0) ⟨_, rfl, rfl, hG, h⟩
set_option maxRecDepth 100000 in
set_option maxHeartbeats 4000000 in
theorem lX8_allIsSo_31 {d : Nat} {a2 : Nat} {x3 : Int32} {M : mm_M} {K : Int32 → mm_M → Prop} {y3 : Int32} {y4 : Int32} {y5 : Int32} (ha2 : a2 ∈ mm_Sts) (hG : mm_G M.2.2) (h : if (M.1 159 0) ≤ y5 then (jX8_allIsSo_3 d a2 x3 M K y3 (y4 + 1)) else (if 16 ≤ y5 then (jX8_allIsSo_3 d a2 x3 M K y3 (y4 + 1)) else (vp_in ((3 * y5) + 1) 48 ∧ vp_in (3 * y5) 48 ∧ if (M.1 160 (3 * y5).toNatClampNeg) = y4 then (if (M.1 160 ((3 * y5) + 1).toNatClampNeg) < 0 then (jX8_allIsSo_31 d a2 x3 M K y3 y4 (y5 + 1)) else (if 7 ≤ (M.1 160 ((3 * y5) + 1).toNatClampNeg) then (jX8_allIsSo_31 d a2 x3 M K y3 y4 (y5 + 1)) else (vp_in (M.1 160 ((3 * y5) + 1).toNatClampNeg) 7 ∧ vp_in ((3 * y5) + 2) 48 ∧ if (M.1 36 (M.1 160 ((3 * y5) + 1).toNatClampNeg).toNatClampNeg) = (M.1 160 ((3 * y5) + 2).toNatClampNeg) then (jX8_allIsSo_31 d a2 x3 M K y3 y4 (y5 + 1)) else (K 0 M)))) else (jX8_allIsSo_31 d a2 x3 M K y3 y4 (y5 + 1))))) : jX8_allIsSo_31 d a2 x3 M K y3 y4 y5 := by
  unfold jX8_allIsSo_31
  refine mm_iload (pc := 31) (j := 5) dX8_allIsSo_31 rfl ?_
  refine mm_aload_n (pc := 33) (j := 0) dX8_allIsSo_33 rfl rfl ?_
  refine mm_getI (pc := 34) (ci := 8) (N := 15) dX8_allIsSo_34 fX8_38 sh_159 rfl ?_
  refine mm_icmp_ge (pc := 37) (tgt := 115) dX8_allIsSo_37 (by decide) (fun hc => ?_) (fun hc => ?_)
  · have h := mm_ift hc h
    refine mm_iinc (pc := 115) (j := 4) (v := y4 + 1) (lv' := [(4, .int (y4 + 1)), (0, .ref 159), (1, .ref 21), (2, .ref a2), (3, .int y3), (5, .int y5)]) dX8_allIsSo_115 rfl rfl (by decide) rfl ?_
    refine mm_goto (pc := 118) (tgt := 3) dX8_allIsSo_118 (by decide) ?_
    exact mm_sub [1, 2, 3, 4, 0] rfl h
  · have h := mm_iff hc h
    refine mm_iload (pc := 40) (j := 5) dX8_allIsSo_40 rfl ?_
    refine mm_bipush (pc := 42) (x := 16) dX8_allIsSo_42 rfl ?_
    refine mm_icmp_ge (pc := 44) (tgt := 115) dX8_allIsSo_44 (by decide) (fun hc => ?_) (fun hc => ?_)
    · have h := mm_ift hc h
      refine mm_iinc (pc := 115) (j := 4) (v := y4 + 1) (lv' := [(4, .int (y4 + 1)), (0, .ref 159), (1, .ref 21), (2, .ref a2), (3, .int y3), (5, .int y5)]) dX8_allIsSo_115 rfl rfl (by decide) rfl ?_
      refine mm_goto (pc := 118) (tgt := 3) dX8_allIsSo_118 (by decide) ?_
      exact mm_sub [1, 2, 3, 4, 0] rfl h
    · have h := mm_iff hc h
      refine mm_aload_n (pc := 47) (j := 0) dX8_allIsSo_47 rfl rfl ?_
      refine mm_getR (pc := 48) (ci := 8) (N := 15) (r := 160) dX8_allIsSo_48 fX8_11 sh_159 rfl (g_159_7 hG) ?_
      refine mm_iconst (pc := 51) (x := 3) dX8_allIsSo_51 rfl ?_
      refine mm_iload (pc := 52) (j := 5) dX8_allIsSo_52 rfl ?_
      refine mm_imul (pc := 54) dX8_allIsSo_54 ?_
      refine mm_iconst (pc := 55) (x := 1) dX8_allIsSo_55 rfl ?_
      refine mm_iadd (pc := 56) dX8_allIsSo_56 ?_
      obtain ⟨hi57, h⟩ := h
      refine mm_iaload (pc := 57) (N := 48) dX8_allIsSo_57 sh_160 hi57 ?_
      refine mm_istore (pc := 58) (lv' := [(6, .int (M.1 160 ((3 * y5) + 1).toNatClampNeg)), (0, .ref 159), (1, .ref 21), (2, .ref a2), (3, .int y3), (4, .int y4), (5, .int y5)]) dX8_allIsSo_58 (by decide) rfl ?_
      refine mm_aload_n (pc := 60) (j := 1) dX8_allIsSo_60 rfl rfl ?_
      refine mm_getR (pc := 61) (ci := 8) (N := 15) (r := 160) dX8_allIsSo_61 fX8_11 sh_159 rfl (g_159_7 hG) ?_
      refine mm_iconst (pc := 64) (x := 3) dX8_allIsSo_64 rfl ?_
      refine mm_iload (pc := 65) (j := 6) dX8_allIsSo_65 rfl ?_
      refine mm_imul (pc := 67) dX8_allIsSo_67 ?_
      obtain ⟨hi68, h⟩ := h
      refine mm_iaload (pc := 68) (N := 48) dX8_allIsSo_68 sh_160 hi68 ?_
      refine mm_iload (pc := 69) (j := 5) dX8_allIsSo_69 rfl ?_
      refine mm_icmp_ne (pc := 71) (tgt := 109) dX8_allIsSo_71 (by decide) (fun hc => ?_) (fun hc => ?_)
      · have h := mm_iff hc h
        refine mm_iinc (pc := 109) (j := 6) (v := y5 + 1) (lv' := [(5, .int (y5 + 1)), (6, .int (M.1 160 ((3 * y5) + 1).toNatClampNeg)), (0, .ref 159), (1, .ref 21), (2, .ref a2), (3, .int y3), (4, .int y4)]) dX8_allIsSo_109 rfl rfl (by decide) rfl ?_
        refine mm_goto (pc := 112) (tgt := 31) dX8_allIsSo_112 (by decide) ?_
        exact mm_sub [2, 3, 4, 5, 6, 0] rfl h
      · have h := mm_ift hc h
        refine mm_iload (pc := 74) (j := 0) dX8_allIsSo_74 rfl ?_
        refine mm_if_lt (pc := 76) (tgt := 109) dX8_allIsSo_76 (by decide) (fun hc => ?_) (fun hc => ?_)
        · have h := mm_ift hc h
          refine mm_iinc (pc := 109) (j := 6) (v := y5 + 1) (lv' := [(5, .int (y5 + 1)), (6, .int (M.1 160 ((3 * y5) + 1).toNatClampNeg)), (0, .ref 159), (1, .ref 21), (2, .ref a2), (3, .int y3), (4, .int y4)]) dX8_allIsSo_109 rfl rfl (by decide) rfl ?_
          refine mm_goto (pc := 112) (tgt := 31) dX8_allIsSo_112 (by decide) ?_
          exact mm_sub [2, 3, 4, 5, 6, 0] rfl h
        · have h := mm_iff hc h
          refine mm_iload (pc := 79) (j := 0) dX8_allIsSo_79 rfl ?_
          refine mm_bipush (pc := 81) (x := 7) dX8_allIsSo_81 rfl ?_
          refine mm_icmp_ge (pc := 83) (tgt := 109) dX8_allIsSo_83 (by decide) (fun hc => ?_) (fun hc => ?_)
          · have h := mm_ift hc h
            refine mm_iinc (pc := 109) (j := 6) (v := y5 + 1) (lv' := [(5, .int (y5 + 1)), (6, .int (M.1 160 ((3 * y5) + 1).toNatClampNeg)), (0, .ref 159), (1, .ref 21), (2, .ref a2), (3, .int y3), (4, .int y4)]) dX8_allIsSo_109 rfl rfl (by decide) rfl ?_
            refine mm_goto (pc := 112) (tgt := 31) dX8_allIsSo_112 (by decide) ?_
            exact mm_sub [2, 3, 4, 5, 6, 0] rfl h
          · have h := mm_iff hc h
            refine mm_aload_n (pc := 86) (j := 2) dX8_allIsSo_86 rfl rfl ?_
            refine mm_getR (pc := 87) (ci := 1) (N := 5) (r := 36) dX8_allIsSo_87 fX8_89 sh_21 rfl (g_21_3 hG) ?_
            refine mm_iload (pc := 90) (j := 0) dX8_allIsSo_90 rfl ?_
            obtain ⟨hi92, h⟩ := h
            refine mm_iaload (pc := 92) (N := 7) dX8_allIsSo_92 sh_36 hi92 ?_
            refine mm_aload_n (pc := 93) (j := 1) dX8_allIsSo_93 rfl rfl ?_
            refine mm_getR (pc := 94) (ci := 8) (N := 15) (r := 160) dX8_allIsSo_94 fX8_11 sh_159 rfl (g_159_7 hG) ?_
            refine mm_iconst (pc := 97) (x := 3) dX8_allIsSo_97 rfl ?_
            refine mm_iload (pc := 98) (j := 6) dX8_allIsSo_98 rfl ?_
            refine mm_imul (pc := 100) dX8_allIsSo_100 ?_
            refine mm_iconst (pc := 101) (x := 2) dX8_allIsSo_101 rfl ?_
            refine mm_iadd (pc := 102) dX8_allIsSo_102 ?_
            obtain ⟨hi103, h⟩ := h
            refine mm_iaload (pc := 103) (N := 48) dX8_allIsSo_103 sh_160 hi103 ?_
            refine mm_icmp_eq (pc := 104) (tgt := 109) dX8_allIsSo_104 (by decide) (fun hc => ?_) (fun hc => ?_)
            · have h := mm_ift hc h
              refine mm_iinc (pc := 109) (j := 6) (v := y5 + 1) (lv' := [(5, .int (y5 + 1)), (6, .int (M.1 160 ((3 * y5) + 1).toNatClampNeg)), (0, .ref 159), (1, .ref 21), (2, .ref a2), (3, .int y3), (4, .int y4)]) dX8_allIsSo_109 rfl rfl (by decide) rfl ?_
              refine mm_goto (pc := 112) (tgt := 31) dX8_allIsSo_112 (by decide) ?_
              exact mm_sub [2, 3, 4, 5, 6, 0] rfl h
            · have h := mm_iff hc h
              refine mm_iconst (pc := 107) (x := 0) dX8_allIsSo_107 rfl ?_
              exact mm_zret (pc := 108) dX8_allIsSo_108 rfl rfl (Nat.le_refl 0) (Nat.le_refl 0) ⟨_, rfl, rfl, hG, h⟩
def jX8_choose_19 (d : Nat) (a2 : Nat) (a3 : Nat) (x4 : Int32) (x5 : Int32) (M : mm_M) (K : mm_M → Prop) (y4 : Int32) (y5 : Int32) : Prop := mm_W mX8_choose (d + 1) 0 0 19 [(0, .ref 159), (1, .ref 21), (2, .ref a2), (3, .ref a3), (4, .int y4), (5, .int y5)] [] mm_SH M 0 0 (mm_PV K)
def jX8_choose_72 (d : Nat) (a2 : Nat) (a3 : Nat) (x4 : Int32) (x5 : Int32) (M : mm_M) (K : mm_M → Prop) (y4 : Int32) (y6 : Int32) (y7 : Int32) : Prop := mm_W mX8_choose (d + 1) 0 0 72 [(0, .ref 159), (1, .ref 21), (2, .ref a2), (3, .ref a3), (4, .int y4), (6, .int y6), (7, .int y7)] [] mm_SH M 0 0 (mm_PV K)
def jX8_choose_117 (d : Nat) (a2 : Nat) (a3 : Nat) (x4 : Int32) (x5 : Int32) (M : mm_M) (K : mm_M → Prop) (y6 : Int32) (y7 : Int32) : Prop := mm_W mX8_choose (d + 1) 0 0 117 [(0, .ref 159), (1, .ref 21), (6, .int y6), (7, .int y7)] [] mm_SH M 0 0 (mm_PV K)
def jX8_choose_127 (d : Nat) (a2 : Nat) (a3 : Nat) (x4 : Int32) (x5 : Int32) (M : mm_M) (K : mm_M → Prop) (y6 : Int32) (y7 : Int32) (y8 : Int32) : Prop := mm_W mX8_choose (d + 1) 0 0 127 [(0, .ref 159), (1, .ref 21), (6, .int y6), (7, .int y7), (8, .int y8)] [] mm_SH M 0 0 (mm_PV K)
set_option maxRecDepth 100000 in
set_option maxHeartbeats 4000000 in
theorem rX8_choose {d : Nat} {a2 : Nat} {a3 : Nat} {x4 : Int32} {x5 : Int32} {M : mm_M} {K : mm_M → Prop} (ha2 : a2 ∈ mm_Sts) (ha3 : a3 ∈ mm_Sts) (hG : mm_G M.2.2) (h : if (M.1 159 13) = x5 then (if (M.1 159 14) = x4 then (K M) else (jX8_choose_19 d a2 a3 x4 x5 M K x4 x5)) else (jX8_choose_19 d a2 a3 x4 x5 M K x4 x5)) : mm_CV mX8_choose (d + 1) [.ref 159, .ref 21, .ref a2, .ref a3, .int x4, .int x5] M K := by
  show mm_W mX8_choose (d + 1) 0 0 0 [(0, .ref 159), (1, .ref 21), (2, .ref a2), (3, .ref a3), (4, .int x4), (5, .int x5)] [] mm_SH M 0 0 (mm_PV K)
  refine mm_aload_n (pc := 0) (j := 0) dX8_choose_0 rfl rfl ?_
  refine mm_getI (pc := 1) (ci := 8) (N := 15) dX8_choose_1 fX8_29 sh_159 rfl ?_
  refine mm_iload (pc := 4) (j := 5) dX8_choose_4 rfl ?_
  refine mm_icmp_ne (pc := 6) (tgt := 19) dX8_choose_6 (by decide) (fun hc => ?_) (fun hc => ?_)
  · have h := mm_iff hc h
    exact h
  · have h := mm_ift hc h
    refine mm_aload_n (pc := 9) (j := 0) dX8_choose_9 rfl rfl ?_
    refine mm_getI (pc := 10) (ci := 8) (N := 15) dX8_choose_10 fX8_92 sh_159 rfl ?_
    refine mm_iload (pc := 13) (j := 4) dX8_choose_13 rfl ?_
    refine mm_icmp_ne (pc := 15) (tgt := 19) dX8_choose_15 (by decide) (fun hc => ?_) (fun hc => ?_)
    · have h := mm_iff hc h
      exact h
    · have h := mm_ift hc h
      exact mm_vret (pc := 18) dX8_choose_18 rfl (Nat.le_refl 0) (Nat.le_refl 0) ⟨rfl, rfl, hG, h⟩
set_option maxRecDepth 100000 in
set_option maxHeartbeats 4000000 in
theorem lX8_choose_19 {d : Nat} {a2 : Nat} {a3 : Nat} {x4 : Int32} {x5 : Int32} {M : mm_M} {K : mm_M → Prop} {y4 : Int32} {y5 : Int32} (ha2 : a2 ∈ mm_Sts) (ha3 : a3 ∈ mm_Sts) (hG : mm_G M.2.2) (h : if ((mm_uI (mm_uI (mm_uI (mm_uI (mm_uI M 159 13 y5) 159 14 y4) 159 4 (-1)) 159 5 (-1)) 159 6 (-1)).1 159 1) = 0 then (K (mm_uI (mm_uI (mm_uI (mm_uI (mm_uI M 159 13 y5) 159 14 y4) 159 4 (-1)) 159 5 (-1)) 159 6 (-1))) else (jX8_choose_72 d a2 a3 x4 x5 (mm_uI (mm_uI (mm_uI (mm_uI (mm_uI M 159 13 y5) 159 14 y4) 159 4 (-1)) 159 5 (-1)) 159 6 (-1)) K y4 (if (999 - ((mm_uI (mm_uI (mm_uI (mm_uI (mm_uI M 159 13 y5) 159 14 y4) 159 4 (-1)) 159 5 (-1)) 159 6 (-1)).1 a2 0)) < 31 then (999 - ((mm_uI (mm_uI (mm_uI (mm_uI (mm_uI M 159 13 y5) 159 14 y4) 159 4 (-1)) 159 5 (-1)) 159 6 (-1)).1 a2 0)) else 31) 0)) : jX8_choose_19 d a2 a3 x4 x5 M K y4 y5 := by
  unfold jX8_choose_19
  refine mm_aload_n (pc := 19) (j := 0) dX8_choose_19 rfl rfl ?_
  refine mm_iload (pc := 20) (j := 5) dX8_choose_20 rfl ?_
  refine mm_putI (pc := 22) (ci := 8) (N := 15) dX8_choose_22 fX8_29 sh_159 (by decide +kernel) rfl rfl rfl ?_
  refine mm_aload_n (pc := 25) (j := 0) dX8_choose_25 rfl rfl ?_
  refine mm_iload (pc := 26) (j := 4) dX8_choose_26 rfl ?_
  refine mm_putI (pc := 28) (ci := 8) (N := 15) dX8_choose_28 fX8_92 sh_159 (by decide +kernel) rfl rfl rfl ?_
  refine mm_aload_n (pc := 31) (j := 0) dX8_choose_31 rfl rfl ?_
  refine mm_iconst (pc := 32) (x := (-1)) dX8_choose_32 rfl ?_
  refine mm_putI (pc := 33) (ci := 8) (N := 15) dX8_choose_33 fX8_95 sh_159 (by decide +kernel) rfl rfl rfl ?_
  refine mm_aload_n (pc := 36) (j := 0) dX8_choose_36 rfl rfl ?_
  refine mm_iconst (pc := 37) (x := (-1)) dX8_choose_37 rfl ?_
  refine mm_putI (pc := 38) (ci := 8) (N := 15) dX8_choose_38 fX8_98 sh_159 (by decide +kernel) rfl rfl rfl ?_
  refine mm_aload_n (pc := 41) (j := 0) dX8_choose_41 rfl rfl ?_
  refine mm_iconst (pc := 42) (x := (-1)) dX8_choose_42 rfl ?_
  refine mm_putI (pc := 43) (ci := 8) (N := 15) dX8_choose_43 fX8_101 sh_159 (by decide +kernel) rfl rfl rfl ?_
  refine mm_aload_n (pc := 46) (j := 0) dX8_choose_46 rfl rfl ?_
  refine mm_getI (pc := 47) (ci := 8) (N := 15) dX8_choose_47 fX8_44 sh_159 rfl ?_
  refine mm_if_ne (pc := 50) (tgt := 54) dX8_choose_50 (by decide) (fun hc => ?_) (fun hc => ?_)
  · have h := mm_iff hc h
    refine mm_bipush (pc := 54) (x := 31) dX8_choose_54 rfl ?_
    refine mm_sipush (pc := 56) (x := 999) dX8_choose_56 rfl ?_
    refine mm_aload_n (pc := 59) (j := 2) dX8_choose_59 rfl rfl ?_
    refine mm_getI (pc := 60) (ci := 9) (N := 7) dX8_choose_60 fX8_80 (sh_St ha2) rfl ?_
    refine mm_isub (pc := 63) dX8_choose_63 ?_
    refine mm_mmin (pc := 64) dX8_choose_64 kX8_104 ma_min_s ma_ini ma_min_c (Nat.le_of_ble_eq_true rfl) (Nat.le_refl 0) (Nat.le_refl 0) ?_
    refine mm_istore (pc := 67) (lv' := [(6, .int (if (999 - ((mm_uI (mm_uI (mm_uI (mm_uI (mm_uI M 159 13 y5) 159 14 y4) 159 4 (-1)) 159 5 (-1)) 159 6 (-1)).1 a2 0)) < 31 then (999 - ((mm_uI (mm_uI (mm_uI (mm_uI (mm_uI M 159 13 y5) 159 14 y4) 159 4 (-1)) 159 5 (-1)) 159 6 (-1)).1 a2 0)) else 31)), (0, .ref 159), (1, .ref 21), (2, .ref a2), (3, .ref a3), (4, .int y4), (5, .int y5)]) dX8_choose_67 (by decide) rfl ?_
    refine mm_iconst (pc := 69) (x := 0) dX8_choose_69 rfl ?_
    refine mm_istore (pc := 70) (lv' := [(7, .int 0), (6, .int (if (999 - ((mm_uI (mm_uI (mm_uI (mm_uI (mm_uI M 159 13 y5) 159 14 y4) 159 4 (-1)) 159 5 (-1)) 159 6 (-1)).1 a2 0)) < 31 then (999 - ((mm_uI (mm_uI (mm_uI (mm_uI (mm_uI M 159 13 y5) 159 14 y4) 159 4 (-1)) 159 5 (-1)) 159 6 (-1)).1 a2 0)) else 31)), (0, .ref 159), (1, .ref 21), (2, .ref a2), (3, .ref a3), (4, .int y4), (5, .int y5)]) dX8_choose_70 (by decide) rfl ?_
    exact mm_sub [2, 3, 4, 5, 6, 1, 0] rfl h
  · have h := mm_ift hc h
    exact mm_vret (pc := 53) dX8_choose_53 rfl (Nat.le_refl 0) (Nat.le_refl 0) ⟨rfl, rfl, hG, h⟩
set_option maxRecDepth 100000 in
set_option maxHeartbeats 4000000 in
theorem lX8_choose_72 {d : Nat} {a2 : Nat} {a3 : Nat} {x4 : Int32} {x5 : Int32} {M : mm_M} {K : mm_M → Prop} {y4 : Int32} {y6 : Int32} {y7 : Int32} (ha2 : a2 ∈ mm_Sts) (ha3 : a3 ∈ mm_Sts) (hG : mm_G M.2.2) (h : if 100 ≤ y7 then (jX8_choose_117 d a2 a3 x4 x5 M K y6 0) else (vp_in y7 100 ∧ if (M.1 161 y7.toNatClampNeg) = 0 then (jX8_choose_72 d a2 a3 x4 x5 M K y4 y6 (y7 + 1)) else (mm_CV mX8_suppose d [.ref a2, .ref a3, .int y4, .int y7] M (fun m95 => mm_CV mX8_tasteDays d [.ref 159, .ref 21, .ref a3, .int y7, .int y6] m95 (fun m105 => jX8_choose_72 d a2 a3 x4 x5 m105 K y4 y6 (y7 + 1)))))) : jX8_choose_72 d a2 a3 x4 x5 M K y4 y6 y7 := by
  unfold jX8_choose_72
  refine mm_iload (pc := 72) (j := 6) dX8_choose_72 rfl ?_
  refine mm_bipush (pc := 74) (x := 100) dX8_choose_74 rfl ?_
  refine mm_icmp_ge (pc := 76) (tgt := 114) dX8_choose_76 (by decide) (fun hc => ?_) (fun hc => ?_)
  · have h := mm_ift hc h
    refine mm_iconst (pc := 114) (x := 0) dX8_choose_114 rfl ?_
    refine mm_istore (pc := 115) (lv' := [(7, .int 0), (0, .ref 159), (1, .ref 21), (2, .ref a2), (3, .ref a3), (4, .int y4), (6, .int y6)]) dX8_choose_115 (by decide) rfl ?_
    exact mm_sub [1, 2, 6, 0] rfl h
  · have h := mm_iff hc h
    refine mm_aload_n (pc := 79) (j := 0) dX8_choose_79 rfl rfl ?_
    refine mm_getR (pc := 80) (ci := 8) (N := 15) (r := 161) dX8_choose_80 fX8_15 sh_159 rfl (g_159_8 hG) ?_
    refine mm_iload (pc := 83) (j := 6) dX8_choose_83 rfl ?_
    obtain ⟨hi85, h⟩ := h
    refine mm_iaload (pc := 85) (N := 100) dX8_choose_85 sh_161 hi85 ?_
    refine mm_if_eq (pc := 86) (tgt := 108) dX8_choose_86 (by decide) (fun hc => ?_) (fun hc => ?_)
    · have h := mm_ift hc h
      refine mm_iinc (pc := 108) (j := 6) (v := y7 + 1) (lv' := [(7, .int (y7 + 1)), (0, .ref 159), (1, .ref 21), (2, .ref a2), (3, .ref a3), (4, .int y4), (6, .int y6)]) dX8_choose_108 rfl rfl (by decide) rfl ?_
      refine mm_goto (pc := 111) (tgt := 72) dX8_choose_111 (by decide) ?_
      exact mm_sub [1, 2, 3, 4, 5, 6, 0] rfl h
    · have h := mm_iff hc h
      refine mm_aload_n (pc := 89) (j := 2) dX8_choose_89 rfl rfl ?_
      refine mm_aload_n (pc := 90) (j := 3) dX8_choose_90 rfl rfl ?_
      refine mm_iload (pc := 91) (j := 4) dX8_choose_91 rfl ?_
      refine mm_iload (pc := 93) (j := 6) dX8_choose_93 rfl ?_
      refine mm_kSV (pc := 95) [.ref a2, .ref a3, .int y4, .int y7] dX8_choose_95 kX8_57 rfl (Nat.le_of_ble_eq_true rfl) (Nat.le_of_ble_eq_true rfl) h (fun m95 hG h => ?_)
      refine mm_aload_n (pc := 98) (j := 0) dX8_choose_98 rfl rfl ?_
      refine mm_aload_n (pc := 99) (j := 1) dX8_choose_99 rfl rfl ?_
      refine mm_aload_n (pc := 100) (j := 3) dX8_choose_100 rfl rfl ?_
      refine mm_iload (pc := 101) (j := 6) dX8_choose_101 rfl ?_
      refine mm_iload (pc := 103) (j := 5) dX8_choose_103 rfl ?_
      refine mm_kVV (pc := 105) [.ref 21, .ref a3, .int y7, .int y6] dX8_choose_105 kX8_107 rfl sh_159 (Nat.le_of_ble_eq_true rfl) (Nat.le_of_ble_eq_true rfl) h (fun m105 hG h => ?_)
      refine mm_iinc (pc := 108) (j := 6) (v := y7 + 1) (lv' := [(7, .int (y7 + 1)), (0, .ref 159), (1, .ref 21), (2, .ref a2), (3, .ref a3), (4, .int y4), (6, .int y6)]) dX8_choose_108 rfl rfl (by decide) rfl ?_
      refine mm_goto (pc := 111) (tgt := 72) dX8_choose_111 (by decide) ?_
      exact mm_sub [1, 2, 3, 4, 5, 6, 0] rfl h
set_option maxRecDepth 100000 in
set_option maxHeartbeats 4000000 in
theorem lX8_choose_117 {d : Nat} {a2 : Nat} {a3 : Nat} {x4 : Int32} {x5 : Int32} {M : mm_M} {K : mm_M → Prop} {y6 : Int32} {y7 : Int32} (ha2 : a2 ∈ mm_Sts) (ha3 : a3 ∈ mm_Sts) (hG : mm_G M.2.2) (h : if y6 ≤ y7 then (K M) else (jX8_choose_127 d a2 a3 x4 x5 M K y6 y7 0)) : jX8_choose_117 d a2 a3 x4 x5 M K y6 y7 := by
  unfold jX8_choose_117
  refine mm_iload (pc := 117) (j := 3) dX8_choose_117 rfl ?_
  refine mm_iload (pc := 119) (j := 2) dX8_choose_119 rfl ?_
  refine mm_icmp_ge (pc := 121) (tgt := 196) dX8_choose_121 (by decide) (fun hc => ?_) (fun hc => ?_)
  · have h := mm_ift hc h
    exact mm_vret (pc := 196) dX8_choose_196 rfl (Nat.le_refl 0) (Nat.le_refl 0) ⟨rfl, rfl, hG, h⟩
  · have h := mm_iff hc h
    refine mm_iconst (pc := 124) (x := 0) dX8_choose_124 rfl ?_
    refine mm_istore (pc := 125) (lv' := [(8, .int 0), (0, .ref 159), (1, .ref 21), (6, .int y6), (7, .int y7)]) dX8_choose_125 (by decide) rfl ?_
    exact mm_sub [1, 2, 3, 4, 0] rfl h
set_option maxRecDepth 100000 in
set_option maxHeartbeats 4000000 in
theorem lX8_choose_127 {d : Nat} {a2 : Nat} {a3 : Nat} {x4 : Int32} {x5 : Int32} {M : mm_M} {K : mm_M → Prop} {y6 : Int32} {y7 : Int32} {y8 : Int32} (ha2 : a2 ∈ mm_Sts) (ha3 : a3 ∈ mm_Sts) (hG : mm_G M.2.2) (h : ∃ q130 : Nat, M.2.2 21 0 = some q130 ∧ q130 ∈ mm_Rls ∧ if (M.1 q130 2) ≤ y8 then (jX8_choose_117 d a2 a3 x4 x5 M K y6 (y7 + 1)) else (mm_CI mX8_mostAlike d [.ref 159, .int y7, .int y8] M (fun z144 m144 => if (m144.1 159 6) = (-1) then (jX8_choose_127 d a2 a3 x4 x5 (mm_uI (mm_uI (mm_uI m144 159 4 y7) 159 5 y8) 159 6 z144) K y6 y7 (y8 + 1)) else (if (m144.1 159 6) ≤ z144 then (jX8_choose_127 d a2 a3 x4 x5 m144 K y6 y7 (y8 + 1)) else (jX8_choose_127 d a2 a3 x4 x5 (mm_uI (mm_uI (mm_uI m144 159 4 y7) 159 5 y8) 159 6 z144) K y6 y7 (y8 + 1)))))) : jX8_choose_127 d a2 a3 x4 x5 M K y6 y7 y8 := by
  unfold jX8_choose_127
  refine mm_iload (pc := 127) (j := 4) dX8_choose_127 rfl ?_
  refine mm_aload_n (pc := 129) (j := 1) dX8_choose_129 rfl rfl ?_
  obtain ⟨q130, he130, hq130, h⟩ := h
  refine mm_getR (pc := 130) (ci := 1) (N := 5) (r := q130) dX8_choose_130 fX8_111 sh_21 rfl he130 ?_
  refine mm_getI (pc := 133) (ci := 7) (N := 11) dX8_choose_133 fX8_115 (sh_Rl hq130) rfl ?_
  refine mm_icmp_ge (pc := 136) (tgt := 190) dX8_choose_136 (by decide) (fun hc => ?_) (fun hc => ?_)
  · have h := mm_ift hc h
    refine mm_iinc (pc := 190) (j := 3) (v := y7 + 1) (lv' := [(7, .int (y7 + 1)), (0, .ref 159), (1, .ref 21), (6, .int y6), (8, .int y8)]) dX8_choose_190 rfl rfl (by decide) rfl ?_
    refine mm_goto (pc := 193) (tgt := 117) dX8_choose_193 (by decide) ?_
    exact mm_sub [1, 2, 3, 0] rfl h
  · have h := mm_iff hc h
    refine mm_aload_n (pc := 139) (j := 0) dX8_choose_139 rfl rfl ?_
    refine mm_iload (pc := 140) (j := 3) dX8_choose_140 rfl ?_
    refine mm_iload (pc := 142) (j := 4) dX8_choose_142 rfl ?_
    refine mm_kVI (pc := 144) [.int y7, .int y8] dX8_choose_144 kX8_120 rfl sh_159 (Nat.le_of_ble_eq_true rfl) (Nat.le_of_ble_eq_true rfl) h (fun z144 m144 hG h => ?_)
    refine mm_istore (pc := 147) (lv' := [(9, .int z144), (0, .ref 159), (1, .ref 21), (6, .int y6), (7, .int y7), (8, .int y8)]) dX8_choose_147 (by decide) rfl ?_
    refine mm_aload_n (pc := 149) (j := 1) dX8_choose_149 rfl rfl ?_
    refine mm_getI (pc := 150) (ci := 8) (N := 15) dX8_choose_150 fX8_101 sh_159 rfl ?_
    refine mm_iconst (pc := 153) (x := (-1)) dX8_choose_153 rfl ?_
    refine mm_icmp_eq (pc := 154) (tgt := 166) dX8_choose_154 (by decide) (fun hc => ?_) (fun hc => ?_)
    · have h := mm_ift hc h
      refine mm_aload_n (pc := 166) (j := 1) dX8_choose_166 rfl rfl ?_
      refine mm_iload (pc := 167) (j := 4) dX8_choose_167 rfl ?_
      refine mm_putI (pc := 169) (ci := 8) (N := 15) dX8_choose_169 fX8_95 sh_159 (by decide +kernel) rfl rfl rfl ?_
      refine mm_aload_n (pc := 172) (j := 1) dX8_choose_172 rfl rfl ?_
      refine mm_iload (pc := 173) (j := 5) dX8_choose_173 rfl ?_
      refine mm_putI (pc := 175) (ci := 8) (N := 15) dX8_choose_175 fX8_98 sh_159 (by decide +kernel) rfl rfl rfl ?_
      refine mm_aload_n (pc := 178) (j := 1) dX8_choose_178 rfl rfl ?_
      refine mm_iload (pc := 179) (j := 0) dX8_choose_179 rfl ?_
      refine mm_putI (pc := 181) (ci := 8) (N := 15) dX8_choose_181 fX8_101 sh_159 (by decide +kernel) rfl rfl rfl ?_
      refine mm_iinc (pc := 184) (j := 5) (v := y8 + 1) (lv' := [(8, .int (y8 + 1)), (9, .int z144), (0, .ref 159), (1, .ref 21), (6, .int y6), (7, .int y7)]) dX8_choose_184 rfl rfl (by decide) rfl ?_
      refine mm_goto (pc := 187) (tgt := 127) dX8_choose_187 (by decide) ?_
      exact mm_sub [2, 3, 4, 5, 0] rfl h
    · have h := mm_iff hc h
      refine mm_iload (pc := 157) (j := 0) dX8_choose_157 rfl ?_
      refine mm_aload_n (pc := 159) (j := 1) dX8_choose_159 rfl rfl ?_
      refine mm_getI (pc := 160) (ci := 8) (N := 15) dX8_choose_160 fX8_101 sh_159 rfl ?_
      refine mm_icmp_ge (pc := 163) (tgt := 184) dX8_choose_163 (by decide) (fun hc => ?_) (fun hc => ?_)
      · have h := mm_ift hc h
        refine mm_iinc (pc := 184) (j := 5) (v := y8 + 1) (lv' := [(8, .int (y8 + 1)), (9, .int z144), (0, .ref 159), (1, .ref 21), (6, .int y6), (7, .int y7)]) dX8_choose_184 rfl rfl (by decide) rfl ?_
        refine mm_goto (pc := 187) (tgt := 127) dX8_choose_187 (by decide) ?_
        exact mm_sub [2, 3, 4, 5, 0] rfl h
      · have h := mm_iff hc h
        refine mm_aload_n (pc := 166) (j := 1) dX8_choose_166 rfl rfl ?_
        refine mm_iload (pc := 167) (j := 4) dX8_choose_167 rfl ?_
        refine mm_putI (pc := 169) (ci := 8) (N := 15) dX8_choose_169 fX8_95 sh_159 (by decide +kernel) rfl rfl rfl ?_
        refine mm_aload_n (pc := 172) (j := 1) dX8_choose_172 rfl rfl ?_
        refine mm_iload (pc := 173) (j := 5) dX8_choose_173 rfl ?_
        refine mm_putI (pc := 175) (ci := 8) (N := 15) dX8_choose_175 fX8_98 sh_159 (by decide +kernel) rfl rfl rfl ?_
        refine mm_aload_n (pc := 178) (j := 1) dX8_choose_178 rfl rfl ?_
        refine mm_iload (pc := 179) (j := 0) dX8_choose_179 rfl ?_
        refine mm_putI (pc := 181) (ci := 8) (N := 15) dX8_choose_181 fX8_101 sh_159 (by decide +kernel) rfl rfl rfl ?_
        refine mm_iinc (pc := 184) (j := 5) (v := y8 + 1) (lv' := [(8, .int (y8 + 1)), (9, .int z144), (0, .ref 159), (1, .ref 21), (6, .int y6), (7, .int y7)]) dX8_choose_184 rfl rfl (by decide) rfl ?_
        refine mm_goto (pc := 187) (tgt := 127) dX8_choose_187 (by decide) ?_
        exact mm_sub [2, 3, 4, 5, 0] rfl h
def jX8_tasteDays_3 (d : Nat) (a2 : Nat) (x3 : Int32) (x4 : Int32) (M : mm_M) (K : mm_M → Prop) (y3 : Int32) (y4 : Int32) (y5 : Int32) : Prop := mm_W mX8_tasteDays (d + 1) 0 0 3 [(0, .ref 159), (1, .ref 21), (2, .ref a2), (3, .int y3), (4, .int y4), (5, .int y5)] [] mm_SH M 0 0 (mm_PV K)
def jX8_tasteDays_30 (d : Nat) (a2 : Nat) (x3 : Int32) (x4 : Int32) (M : mm_M) (K : mm_M → Prop) (y3 : Int32) (y4 : Int32) (y5 : Int32) (y6 : Int64) (y8 : Int32) : Prop := mm_W mX8_tasteDays (d + 1) 0 0 30 [(0, .ref 159), (1, .ref 21), (2, .ref a2), (3, .int y3), (4, .int y4), (5, .int y5), (6, .long y6), (8, .int y8)] [] mm_SH M 0 0 (mm_PV K)
set_option maxRecDepth 100000 in
set_option maxHeartbeats 4000000 in
theorem rX8_tasteDays {d : Nat} {a2 : Nat} {x3 : Int32} {x4 : Int32} {M : mm_M} {K : mm_M → Prop} (ha2 : a2 ∈ mm_Sts) (hG : mm_G M.2.2) (h : jX8_tasteDays_3 d a2 x3 x4 M K x3 x4 0) : mm_CV mX8_tasteDays (d + 1) [.ref 159, .ref 21, .ref a2, .int x3, .int x4] M K := by
  show mm_W mX8_tasteDays (d + 1) 0 0 0 [(0, .ref 159), (1, .ref 21), (2, .ref a2), (3, .int x3), (4, .int x4)] [] mm_SH M 0 0 (mm_PV K)
  refine mm_iconst (pc := 0) (x := 0) dX8_tasteDays_0 rfl ?_
  refine mm_istore (pc := 1) (lv' := [(5, .int 0), (0, .ref 159), (1, .ref 21), (2, .ref a2), (3, .int x3), (4, .int x4)]) dX8_tasteDays_1 (by decide) rfl ?_
  exact mm_sub [1, 2, 3, 4, 5, 0] rfl h
set_option maxRecDepth 100000 in
set_option maxHeartbeats 4000000 in
theorem lX8_tasteDays_3 {d : Nat} {a2 : Nat} {x3 : Int32} {x4 : Int32} {M : mm_M} {K : mm_M → Prop} {y3 : Int32} {y4 : Int32} {y5 : Int32} (ha2 : a2 ∈ mm_Sts) (hG : mm_G M.2.2) (h : if y4 ≤ y5 then (K M) else (if 31 ≤ y5 then (K M) else (mm_CV mX1_run d [.ref 21, .ref a2, .int 0, .int 1] M (fun m21 => jX8_tasteDays_30 d a2 x3 x4 m21 K y3 y4 y5 0 0)))) : jX8_tasteDays_3 d a2 x3 x4 M K y3 y4 y5 := by
  unfold jX8_tasteDays_3
  refine mm_iload (pc := 3) (j := 5) dX8_tasteDays_3 rfl ?_
  refine mm_iload (pc := 5) (j := 4) dX8_tasteDays_5 rfl ?_
  refine mm_icmp_ge (pc := 7) (tgt := 91) dX8_tasteDays_7 (by decide) (fun hc => ?_) (fun hc => ?_)
  · have h := mm_ift hc h
    exact mm_vret (pc := 91) dX8_tasteDays_91 rfl (Nat.le_refl 0) (Nat.le_refl 0) ⟨rfl, rfl, hG, h⟩
  · have h := mm_iff hc h
    refine mm_iload (pc := 10) (j := 5) dX8_tasteDays_10 rfl ?_
    refine mm_bipush (pc := 12) (x := 31) dX8_tasteDays_12 rfl ?_
    refine mm_icmp_ge (pc := 14) (tgt := 91) dX8_tasteDays_14 (by decide) (fun hc => ?_) (fun hc => ?_)
    · have h := mm_ift hc h
      exact mm_vret (pc := 91) dX8_tasteDays_91 rfl (Nat.le_refl 0) (Nat.le_refl 0) ⟨rfl, rfl, hG, h⟩
    · have h := mm_iff hc h
      refine mm_aload_n (pc := 17) (j := 1) dX8_tasteDays_17 rfl rfl ?_
      refine mm_aload_n (pc := 18) (j := 2) dX8_tasteDays_18 rfl rfl ?_
      refine mm_iconst (pc := 19) (x := 0) dX8_tasteDays_19 rfl ?_
      refine mm_iconst (pc := 20) (x := 1) dX8_tasteDays_20 rfl ?_
      refine mm_kVV (pc := 21) [.ref a2, .int 0, .int 1] dX8_tasteDays_21 kX8_83 rfl sh_21 (Nat.le_of_ble_eq_true rfl) (Nat.le_of_ble_eq_true rfl) h (fun m21 hG h => ?_)
      refine mm_lconst (pc := 24) (x := 0) dX8_tasteDays_24 rfl ?_
      refine mm_lstore (pc := 25) (lv' := [(6, .long 0), (0, .ref 159), (1, .ref 21), (2, .ref a2), (3, .int y3), (4, .int y4), (5, .int y5)]) dX8_tasteDays_25 (by decide) rfl ?_
      refine mm_iconst (pc := 27) (x := 0) dX8_tasteDays_27 rfl ?_
      refine mm_istore (pc := 28) (lv' := [(8, .int 0), (6, .long 0), (0, .ref 159), (1, .ref 21), (2, .ref a2), (3, .int y3), (4, .int y4), (5, .int y5)]) dX8_tasteDays_28 (by decide) rfl ?_
      exact mm_sub [2, 3, 4, 5, 6, 7, 1, 0] rfl h
set_option maxRecDepth 100000 in
set_option maxHeartbeats 4000000 in
theorem lX8_tasteDays_30 {d : Nat} {a2 : Nat} {x3 : Int32} {x4 : Int32} {M : mm_M} {K : mm_M → Prop} {y3 : Int32} {y4 : Int32} {y5 : Int32} {y6 : Int64} {y8 : Int32} (ha2 : a2 ∈ mm_Sts) (hG : mm_G M.2.2) (h : if 7 ≤ y8 then (vp_in ((y3 * 31) + y5) 3100 ∧ jX8_tasteDays_3 d a2 x3 x4 (mm_uL M 162 ((y3 * 31) + y5).toNatClampNeg y6) K y3 y4 (y5 + 1)) else (vp_in y8 7 ∧ jX8_tasteDays_30 d a2 x3 x4 M K y3 y4 y5 (y6 ||| (((if 100 < (M.1 36 y8.toNatClampNeg) then 100 else (M.1 36 y8.toNatClampNeg)).toInt64) <<< ((7 * y8).toInt64 &&& 63))) (y8 + 1))) : jX8_tasteDays_30 d a2 x3 x4 M K y3 y4 y5 y6 y8 := by
  unfold jX8_tasteDays_30
  refine mm_iload (pc := 30) (j := 7) dX8_tasteDays_30 rfl ?_
  refine mm_bipush (pc := 32) (x := 7) dX8_tasteDays_32 rfl ?_
  refine mm_icmp_ge (pc := 34) (tgt := 71) dX8_tasteDays_34 (by decide) (fun hc => ?_) (fun hc => ?_)
  · have h := mm_ift hc h
    refine mm_aload_n (pc := 71) (j := 0) dX8_tasteDays_71 rfl rfl ?_
    refine mm_getR (pc := 72) (ci := 8) (N := 15) (r := 162) dX8_tasteDays_72 fX8_18 sh_159 rfl (g_159_9 hG) ?_
    refine mm_iload_n (pc := 75) (j := 3) dX8_tasteDays_75 rfl rfl ?_
    refine mm_bipush (pc := 76) (x := 31) dX8_tasteDays_76 rfl ?_
    refine mm_imul (pc := 78) dX8_tasteDays_78 ?_
    refine mm_iload (pc := 79) (j := 5) dX8_tasteDays_79 rfl ?_
    refine mm_iadd (pc := 81) dX8_tasteDays_81 ?_
    refine mm_lload (pc := 82) (j := 6) dX8_tasteDays_82 rfl ?_
    obtain ⟨hi84, h⟩ := h
    refine mm_lastore (pc := 84) (N := 3100) dX8_tasteDays_84 sh_162 hi84 ?_
    refine mm_iinc (pc := 85) (j := 5) (v := y5 + 1) (lv' := [(5, .int (y5 + 1)), (0, .ref 159), (1, .ref 21), (2, .ref a2), (3, .int y3), (4, .int y4), (6, .long y6), (8, .int y8)]) dX8_tasteDays_85 rfl rfl (by decide) rfl ?_
    refine mm_goto (pc := 88) (tgt := 3) dX8_tasteDays_88 (by decide) ?_
    exact mm_sub [1, 2, 3, 4, 5, 0] rfl h
  · have h := mm_iff hc h
    refine mm_aload_n (pc := 37) (j := 1) dX8_tasteDays_37 rfl rfl ?_
    refine mm_getR (pc := 38) (ci := 1) (N := 5) (r := 36) dX8_tasteDays_38 fX8_89 sh_21 rfl (g_21_3 hG) ?_
    refine mm_iload (pc := 41) (j := 7) dX8_tasteDays_41 rfl ?_
    obtain ⟨hi43, h⟩ := h
    refine mm_iaload (pc := 43) (N := 7) dX8_tasteDays_43 sh_36 hi43 ?_
    refine mm_bipush (pc := 44) (x := 100) dX8_tasteDays_44 rfl ?_
    refine mm_mmin (pc := 46) dX8_tasteDays_46 kX8_104 ma_min_s ma_ini ma_min_c (Nat.le_of_ble_eq_true rfl) (Nat.le_refl 0) (Nat.le_refl 0) ?_
    refine mm_i2l (pc := 49) dX8_tasteDays_49 ?_
    refine mm_lstore (pc := 50) (lv' := [(9, .long ((if 100 < (M.1 36 y8.toNatClampNeg) then 100 else (M.1 36 y8.toNatClampNeg)).toInt64)), (0, .ref 159), (1, .ref 21), (2, .ref a2), (3, .int y3), (4, .int y4), (5, .int y5), (6, .long y6), (8, .int y8)]) dX8_tasteDays_50 (by decide) rfl ?_
    refine mm_lload (pc := 52) (j := 7) dX8_tasteDays_52 rfl ?_
    refine mm_lload (pc := 54) (j := 0) dX8_tasteDays_54 rfl ?_
    refine mm_bipush (pc := 56) (x := 7) dX8_tasteDays_56 rfl ?_
    refine mm_iload (pc := 58) (j := 8) dX8_tasteDays_58 rfl ?_
    refine mm_imul (pc := 60) dX8_tasteDays_60 ?_
    refine mm_lshl (pc := 61) dX8_tasteDays_61 rfl ?_
    refine mm_lor (pc := 62) dX8_tasteDays_62 ?_
    refine mm_lstore (pc := 63) (lv' := [(6, .long (y6 ||| (((if 100 < (M.1 36 y8.toNatClampNeg) then 100 else (M.1 36 y8.toNatClampNeg)).toInt64) <<< ((7 * y8).toInt64 &&& 63)))), (9, .long ((if 100 < (M.1 36 y8.toNatClampNeg) then 100 else (M.1 36 y8.toNatClampNeg)).toInt64)), (0, .ref 159), (1, .ref 21), (2, .ref a2), (3, .int y3), (4, .int y4), (5, .int y5), (8, .int y8)]) dX8_tasteDays_63 (by decide) rfl ?_
    refine mm_iinc (pc := 65) (j := 8) (v := y8 + 1) (lv' := [(8, .int (y8 + 1)), (6, .long (y6 ||| (((if 100 < (M.1 36 y8.toNatClampNeg) then 100 else (M.1 36 y8.toNatClampNeg)).toInt64) <<< ((7 * y8).toInt64 &&& 63)))), (9, .long ((if 100 < (M.1 36 y8.toNatClampNeg) then 100 else (M.1 36 y8.toNatClampNeg)).toInt64)), (0, .ref 159), (1, .ref 21), (2, .ref a2), (3, .int y3), (4, .int y4), (5, .int y5)]) dX8_tasteDays_65 rfl rfl (by decide) rfl ?_
    refine mm_goto (pc := 68) (tgt := 30) dX8_tasteDays_68 (by decide) ?_
    exact mm_sub [3, 4, 5, 6, 7, 8, 1, 0] rfl h
def jX8_mostAlike_13 (d : Nat) (x1 : Int32) (x2 : Int32) (M : mm_M) (K : Int32 → mm_M → Prop) (y1 : Int32) (y2 : Int32) (y3 : Int32) (y4 : Int32) : Prop := mm_W mX8_mostAlike (d + 1) 0 0 13 [(0, .ref 159), (1, .int y1), (2, .int y2), (3, .int y3), (4, .int y4)] [] mm_SH M 0 0 (mm_PI K)
set_option maxRecDepth 100000 in
set_option maxHeartbeats 4000000 in
theorem rX8_mostAlike {d : Nat} {x1 : Int32} {x2 : Int32} {M : mm_M} {K : Int32 → mm_M → Prop} (hG : mm_G M.2.2) (h : mm_CV mJ7_fill_53178 d [.ref 163, .int 0] M (fun m5 => jX8_mostAlike_13 d x1 x2 m5 K x1 x2 0 0)) : mm_CI mX8_mostAlike (d + 1) [.ref 159, .int x1, .int x2] M K := by
  show mm_W mX8_mostAlike (d + 1) 0 0 0 [(0, .ref 159), (1, .int x1), (2, .int x2)] [] mm_SH M 0 0 (mm_PI K)
  refine mm_aload_n (pc := 0) (j := 0) dX8_mostAlike_0 rfl rfl ?_
  refine mm_getR (pc := 1) (ci := 8) (N := 15) (r := 163) dX8_mostAlike_1 fX8_22 sh_159 rfl (g_159_10 hG) ?_
  refine mm_iconst (pc := 4) (x := 0) dX8_mostAlike_4 rfl ?_
  refine mm_kSV (pc := 5) [.ref 163, .int 0] dX8_mostAlike_5 kX8_123 rfl (Nat.le_of_ble_eq_true rfl) (Nat.le_of_ble_eq_true rfl) h (fun m5 hG h => ?_)
  refine mm_iconst (pc := 8) (x := 0) dX8_mostAlike_8 rfl ?_
  refine mm_istore_n (pc := 9) (lv' := [(3, .int 0), (0, .ref 159), (1, .int x1), (2, .int x2)]) dX8_mostAlike_9 rfl (by decide) rfl ?_
  refine mm_iconst (pc := 10) (x := 0) dX8_mostAlike_10 rfl ?_
  refine mm_istore (pc := 11) (lv' := [(4, .int 0), (3, .int 0), (0, .ref 159), (1, .int x1), (2, .int x2)]) dX8_mostAlike_11 (by decide) rfl ?_
  exact mm_sub [2, 3, 4, 1, 0] rfl h
set_option maxRecDepth 100000 in
set_option maxHeartbeats 4000000 in
theorem lX8_mostAlike_13 {d : Nat} {x1 : Int32} {x2 : Int32} {M : mm_M} {K : Int32 → mm_M → Prop} {y1 : Int32} {y2 : Int32} {y3 : Int32} {y4 : Int32} (hG : mm_G M.2.2) (h : if 100 ≤ y4 then (K y3 M) else (if y1 < 0 then (K y3 M) else (if 31 ≤ y1 then (K y3 M) else (vp_in y4 100 ∧ if (M.1 161 y4.toNatClampNeg) = 0 then (jX8_mostAlike_13 d x1 x2 M K y1 y2 y3 (y4 + 1)) else (vp_in ((y4 * 31) + y1) 3100 ∧ vp_in ((((M.2.1 162 ((y4 * 31) + y1).toNatClampNeg) >>> ((7 * y2).toInt64 &&& 63)) &&& 127).toInt32) 128 ∧ vp_in ((((M.2.1 162 ((y4 * 31) + y1).toNatClampNeg) >>> ((7 * y2).toInt64 &&& 63)) &&& 127).toInt32) 128 ∧ vp_in ((((M.2.1 162 ((y4 * 31) + y1).toNatClampNeg) >>> ((7 * y2).toInt64 &&& 63)) &&& 127).toInt32) 128 ∧ jX8_mostAlike_13 d x1 x2 (mm_uI M 163 ((((M.2.1 162 ((y4 * 31) + y1).toNatClampNeg) >>> ((7 * y2).toInt64 &&& 63)) &&& 127).toInt32).toNatClampNeg ((M.1 163 ((((M.2.1 162 ((y4 * 31) + y1).toNatClampNeg) >>> ((7 * y2).toInt64 &&& 63)) &&& 127).toInt32).toNatClampNeg) + 1)) K y1 y2 (if y3 < ((mm_uI M 163 ((((M.2.1 162 ((y4 * 31) + y1).toNatClampNeg) >>> ((7 * y2).toInt64 &&& 63)) &&& 127).toInt32).toNatClampNeg ((M.1 163 ((((M.2.1 162 ((y4 * 31) + y1).toNatClampNeg) >>> ((7 * y2).toInt64 &&& 63)) &&& 127).toInt32).toNatClampNeg) + 1)).1 163 ((((M.2.1 162 ((y4 * 31) + y1).toNatClampNeg) >>> ((7 * y2).toInt64 &&& 63)) &&& 127).toInt32).toNatClampNeg) then ((mm_uI M 163 ((((M.2.1 162 ((y4 * 31) + y1).toNatClampNeg) >>> ((7 * y2).toInt64 &&& 63)) &&& 127).toInt32).toNatClampNeg ((M.1 163 ((((M.2.1 162 ((y4 * 31) + y1).toNatClampNeg) >>> ((7 * y2).toInt64 &&& 63)) &&& 127).toInt32).toNatClampNeg) + 1)).1 163 ((((M.2.1 162 ((y4 * 31) + y1).toNatClampNeg) >>> ((7 * y2).toInt64 &&& 63)) &&& 127).toInt32).toNatClampNeg) else y3) (y4 + 1)))))) : jX8_mostAlike_13 d x1 x2 M K y1 y2 y3 y4 := by
  unfold jX8_mostAlike_13
  refine mm_iload (pc := 13) (j := 4) dX8_mostAlike_13 rfl ?_
  refine mm_bipush (pc := 15) (x := 100) dX8_mostAlike_15 rfl ?_
  refine mm_icmp_ge (pc := 17) (tgt := 93) dX8_mostAlike_17 (by decide) (fun hc => ?_) (fun hc => ?_)
  · have h := mm_ift hc h
    refine mm_iload_n (pc := 93) (j := 3) dX8_mostAlike_93 rfl rfl ?_
    exact mm_iret (pc := 94) dX8_mostAlike_94 rfl (Nat.le_refl 0) (Nat.le_refl 0) ⟨_, rfl, rfl, hG, h⟩
  · have h := mm_iff hc h
    refine mm_iload_n (pc := 20) (j := 1) dX8_mostAlike_20 rfl rfl ?_
    refine mm_if_lt (pc := 21) (tgt := 93) dX8_mostAlike_21 (by decide) (fun hc => ?_) (fun hc => ?_)
    · have h := mm_ift hc h
      refine mm_iload_n (pc := 93) (j := 3) dX8_mostAlike_93 rfl rfl ?_
      exact mm_iret (pc := 94) dX8_mostAlike_94 rfl (Nat.le_refl 0) (Nat.le_refl 0) ⟨_, rfl, rfl, hG, h⟩
    · have h := mm_iff hc h
      refine mm_iload_n (pc := 24) (j := 1) dX8_mostAlike_24 rfl rfl ?_
      refine mm_bipush (pc := 25) (x := 31) dX8_mostAlike_25 rfl ?_
      refine mm_icmp_ge (pc := 27) (tgt := 93) dX8_mostAlike_27 (by decide) (fun hc => ?_) (fun hc => ?_)
      · have h := mm_ift hc h
        refine mm_iload_n (pc := 93) (j := 3) dX8_mostAlike_93 rfl rfl ?_
        exact mm_iret (pc := 94) dX8_mostAlike_94 rfl (Nat.le_refl 0) (Nat.le_refl 0) ⟨_, rfl, rfl, hG, h⟩
      · have h := mm_iff hc h
        refine mm_aload_n (pc := 30) (j := 0) dX8_mostAlike_30 rfl rfl ?_
        refine mm_getR (pc := 31) (ci := 8) (N := 15) (r := 161) dX8_mostAlike_31 fX8_15 sh_159 rfl (g_159_8 hG) ?_
        refine mm_iload (pc := 34) (j := 4) dX8_mostAlike_34 rfl ?_
        obtain ⟨hi36, h⟩ := h
        refine mm_iaload (pc := 36) (N := 100) dX8_mostAlike_36 sh_161 hi36 ?_
        refine mm_if_eq (pc := 37) (tgt := 87) dX8_mostAlike_37 (by decide) (fun hc => ?_) (fun hc => ?_)
        · have h := mm_ift hc h
          refine mm_iinc (pc := 87) (j := 4) (v := y4 + 1) (lv' := [(4, .int (y4 + 1)), (0, .ref 159), (1, .int y1), (2, .int y2), (3, .int y3)]) dX8_mostAlike_87 rfl rfl (by decide) rfl ?_
          refine mm_goto (pc := 90) (tgt := 13) dX8_mostAlike_90 (by decide) ?_
          exact mm_sub [1, 2, 3, 4, 0] rfl h
        · have h := mm_iff hc h
          refine mm_aload_n (pc := 40) (j := 0) dX8_mostAlike_40 rfl rfl ?_
          refine mm_getR (pc := 41) (ci := 8) (N := 15) (r := 162) dX8_mostAlike_41 fX8_18 sh_159 rfl (g_159_9 hG) ?_
          refine mm_iload (pc := 44) (j := 4) dX8_mostAlike_44 rfl ?_
          refine mm_bipush (pc := 46) (x := 31) dX8_mostAlike_46 rfl ?_
          refine mm_imul (pc := 48) dX8_mostAlike_48 ?_
          refine mm_iload_n (pc := 49) (j := 1) dX8_mostAlike_49 rfl rfl ?_
          refine mm_iadd (pc := 50) dX8_mostAlike_50 ?_
          obtain ⟨hi51, h⟩ := h
          refine mm_laload (pc := 51) (N := 3100) dX8_mostAlike_51 sh_162 hi51 ?_
          refine mm_bipush (pc := 52) (x := 7) dX8_mostAlike_52 rfl ?_
          refine mm_iload_n (pc := 54) (j := 2) dX8_mostAlike_54 rfl rfl ?_
          refine mm_imul (pc := 55) dX8_mostAlike_55 ?_
          refine mm_lshr (pc := 56) dX8_mostAlike_56 rfl ?_
          refine mm_ldc2 (pc := 57) (x := 127) dX8_mostAlike_57 cX8_129 ?_
          refine mm_land (pc := 60) dX8_mostAlike_60 ?_
          refine mm_l2i (pc := 61) dX8_mostAlike_61 ?_
          refine mm_istore (pc := 62) (lv' := [(5, .int ((((M.2.1 162 ((y4 * 31) + y1).toNatClampNeg) >>> ((7 * y2).toInt64 &&& 63)) &&& 127).toInt32)), (0, .ref 159), (1, .int y1), (2, .int y2), (3, .int y3), (4, .int y4)]) dX8_mostAlike_62 (by decide) rfl ?_
          refine mm_aload_n (pc := 64) (j := 1) dX8_mostAlike_64 rfl rfl ?_
          refine mm_getR (pc := 65) (ci := 8) (N := 15) (r := 163) dX8_mostAlike_65 fX8_22 sh_159 rfl (g_159_10 hG) ?_
          refine mm_iload (pc := 68) (j := 0) dX8_mostAlike_68 rfl ?_
          refine mm_dup2 (pc := 70) dX8_mostAlike_70 rfl rfl ?_
          obtain ⟨hi71, h⟩ := h
          refine mm_iaload (pc := 71) (N := 128) dX8_mostAlike_71 sh_163 hi71 ?_
          refine mm_iconst (pc := 72) (x := 1) dX8_mostAlike_72 rfl ?_
          refine mm_iadd (pc := 73) dX8_mostAlike_73 ?_
          obtain ⟨hi74, h⟩ := h
          refine mm_iastore (pc := 74) (N := 128) dX8_mostAlike_74 sh_163 hi74 ?_
          refine mm_iload_n (pc := 75) (j := 4) dX8_mostAlike_75 rfl rfl ?_
          refine mm_aload_n (pc := 76) (j := 1) dX8_mostAlike_76 rfl rfl ?_
          refine mm_getR (pc := 77) (ci := 8) (N := 15) (r := 163) dX8_mostAlike_77 fX8_22 sh_159 rfl (g_159_10 hG) ?_
          refine mm_iload (pc := 80) (j := 0) dX8_mostAlike_80 rfl ?_
          obtain ⟨hi82, h⟩ := h
          refine mm_iaload (pc := 82) (N := 128) dX8_mostAlike_82 sh_163 hi82 ?_
          refine mm_mmax (pc := 83) dX8_mostAlike_83 kX8_65 ma_max_s ma_ini ma_max_c (Nat.le_of_ble_eq_true rfl) (Nat.le_refl 0) (Nat.le_refl 0) ?_
          refine mm_istore_n (pc := 86) (lv' := [(3, .int (if y3 < ((mm_uI M 163 ((((M.2.1 162 ((y4 * 31) + y1).toNatClampNeg) >>> ((7 * y2).toInt64 &&& 63)) &&& 127).toInt32).toNatClampNeg ((M.1 163 ((((M.2.1 162 ((y4 * 31) + y1).toNatClampNeg) >>> ((7 * y2).toInt64 &&& 63)) &&& 127).toInt32).toNatClampNeg) + 1)).1 163 ((((M.2.1 162 ((y4 * 31) + y1).toNatClampNeg) >>> ((7 * y2).toInt64 &&& 63)) &&& 127).toInt32).toNatClampNeg) then ((mm_uI M 163 ((((M.2.1 162 ((y4 * 31) + y1).toNatClampNeg) >>> ((7 * y2).toInt64 &&& 63)) &&& 127).toInt32).toNatClampNeg ((M.1 163 ((((M.2.1 162 ((y4 * 31) + y1).toNatClampNeg) >>> ((7 * y2).toInt64 &&& 63)) &&& 127).toInt32).toNatClampNeg) + 1)).1 163 ((((M.2.1 162 ((y4 * 31) + y1).toNatClampNeg) >>> ((7 * y2).toInt64 &&& 63)) &&& 127).toInt32).toNatClampNeg) else y3)), (5, .int ((((M.2.1 162 ((y4 * 31) + y1).toNatClampNeg) >>> ((7 * y2).toInt64 &&& 63)) &&& 127).toInt32)), (0, .ref 159), (1, .int y1), (2, .int y2), (4, .int y4)]) dX8_mostAlike_86 rfl (by decide) rfl ?_
          refine mm_iinc (pc := 87) (j := 5) (v := y4 + 1) (lv' := [(4, .int (y4 + 1)), (3, .int (if y3 < ((mm_uI M 163 ((((M.2.1 162 ((y4 * 31) + y1).toNatClampNeg) >>> ((7 * y2).toInt64 &&& 63)) &&& 127).toInt32).toNatClampNeg ((M.1 163 ((((M.2.1 162 ((y4 * 31) + y1).toNatClampNeg) >>> ((7 * y2).toInt64 &&& 63)) &&& 127).toInt32).toNatClampNeg) + 1)).1 163 ((((M.2.1 162 ((y4 * 31) + y1).toNatClampNeg) >>> ((7 * y2).toInt64 &&& 63)) &&& 127).toInt32).toNatClampNeg) then ((mm_uI M 163 ((((M.2.1 162 ((y4 * 31) + y1).toNatClampNeg) >>> ((7 * y2).toInt64 &&& 63)) &&& 127).toInt32).toNatClampNeg ((M.1 163 ((((M.2.1 162 ((y4 * 31) + y1).toNatClampNeg) >>> ((7 * y2).toInt64 &&& 63)) &&& 127).toInt32).toNatClampNeg) + 1)).1 163 ((((M.2.1 162 ((y4 * 31) + y1).toNatClampNeg) >>> ((7 * y2).toInt64 &&& 63)) &&& 127).toInt32).toNatClampNeg) else y3)), (5, .int ((((M.2.1 162 ((y4 * 31) + y1).toNatClampNeg) >>> ((7 * y2).toInt64 &&& 63)) &&& 127).toInt32)), (0, .ref 159), (1, .int y1), (2, .int y2)]) dX8_mostAlike_87 rfl rfl (by decide) rfl ?_
          refine mm_goto (pc := 90) (tgt := 13) dX8_mostAlike_90 (by decide) ?_
          exact mm_sub [3, 4, 5, 1, 0] rfl h
