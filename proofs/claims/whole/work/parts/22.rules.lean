set_option maxRecDepth 100000 in
set_option maxHeartbeats 4000000 in
theorem rX1_run {d : Nat} {a1 : Nat} {x2 : Int32} {x3 : Int32} {M : mm_M} {K : mm_M → Prop} (ha1 : a1 ∈ mm_Sts) (hG : mm_G M.2.2) (h : mm_CV mX1_serve d [.ref 21, .ref a1, .int x2, .int x3] M (fun m4 => mm_CV mX1_starve d [.ref 21, .ref a1] m4 (fun m9 => mm_CV mX1_cool d [.ref 21, .ref a1] m9 (fun m14 => mm_CV mX1_grow d [.ref 21, .ref a1] m14 (fun m19 => if 999 ≤ (m19.1 a1 0) then (K m19) else (K (mm_uI m19 a1 0 ((m19.1 a1 0) + 1)))))))) : mm_CV mX1_run (d + 1) [.ref 21, .ref a1, .int x2, .int x3] M K := by
  show mm_W mX1_run (d + 1) 0 0 0 [(0, .ref 21), (1, .ref a1), (2, .int x2), (3, .int x3)] [] mm_SH M 0 0 (mm_PV K)
  refine mm_aload_n (pc := 0) (j := 0) dX1_run_0 rfl rfl ?_
  refine mm_aload_n (pc := 1) (j := 1) dX1_run_1 rfl rfl ?_
  refine mm_iload_n (pc := 2) (j := 2) dX1_run_2 rfl rfl ?_
  refine mm_iload_n (pc := 3) (j := 3) dX1_run_3 rfl rfl ?_
  refine mm_kVV (pc := 4) [.ref a1, .int x2, .int x3] dX1_run_4 kX1_32 rfl sh_21 (Nat.le_of_ble_eq_true rfl) (Nat.le_of_ble_eq_true rfl) h (fun m4 hG h => ?_)
  refine mm_aload_n (pc := 7) (j := 0) dX1_run_7 rfl rfl ?_
  refine mm_aload_n (pc := 8) (j := 1) dX1_run_8 rfl rfl ?_
  refine mm_kVV (pc := 9) [.ref a1] dX1_run_9 kX1_36 rfl sh_21 (Nat.le_of_ble_eq_true rfl) (Nat.le_of_ble_eq_true rfl) h (fun m9 hG h => ?_)
  refine mm_aload_n (pc := 12) (j := 0) dX1_run_12 rfl rfl ?_
  refine mm_aload_n (pc := 13) (j := 1) dX1_run_13 rfl rfl ?_
  refine mm_kVV (pc := 14) [.ref a1] dX1_run_14 kX1_40 rfl sh_21 (Nat.le_of_ble_eq_true rfl) (Nat.le_of_ble_eq_true rfl) h (fun m14 hG h => ?_)
  refine mm_aload_n (pc := 17) (j := 0) dX1_run_17 rfl rfl ?_
  refine mm_aload_n (pc := 18) (j := 1) dX1_run_18 rfl rfl ?_
  refine mm_kVV (pc := 19) [.ref a1] dX1_run_19 kX1_43 rfl sh_21 (Nat.le_of_ble_eq_true rfl) (Nat.le_of_ble_eq_true rfl) h (fun m19 hG h => ?_)
  refine mm_aload_n (pc := 22) (j := 1) dX1_run_22 rfl rfl ?_
  refine mm_getI (pc := 23) (ci := 9) (N := 7) dX1_run_23 fX1_46 (sh_St ha1) rfl ?_
  refine mm_sipush (pc := 26) (x := 999) dX1_run_26 rfl ?_
  refine mm_icmp_ge (pc := 29) (tgt := 42) dX1_run_29 (by decide) (fun hc => ?_) (fun hc => ?_)
  · have h := mm_ift hc h
    exact mm_vret (pc := 42) dX1_run_42 rfl (Nat.le_refl 0) (Nat.le_refl 0) ⟨rfl, rfl, hG, h⟩
  · have h := mm_iff hc h
    refine mm_aload_n (pc := 32) (j := 1) dX1_run_32 rfl rfl ?_
    refine mm_dup (pc := 33) dX1_run_33 rfl ?_
    refine mm_getI (pc := 34) (ci := 9) (N := 7) dX1_run_34 fX1_46 (sh_St ha1) rfl ?_
    refine mm_iconst (pc := 37) (x := 1) dX1_run_37 rfl ?_
    refine mm_iadd (pc := 38) dX1_run_38 ?_
    refine mm_putI (pc := 39) (ci := 9) (N := 7) dX1_run_39 fX1_46 (sh_St ha1) (by decide +kernel) rfl rfl rfl ?_
    exact mm_vret (pc := 42) dX1_run_42 rfl (Nat.le_refl 0) (Nat.le_refl 0) ⟨rfl, rfl, hG, h⟩
def jX1_serve_11 (d : Nat) (a1 : Nat) (x2 : Int32) (x3 : Int32) (M : mm_M) (K : mm_M → Prop) (y3 : Int32) (y4 : Int32) (y5 : Int32) : Prop := mm_W mX1_serve (d + 1) 0 0 11 [(0, .ref 21), (1, .ref a1), (3, .int y3), (4, .int y4), (5, .int y5)] [] mm_SH M 0 0 (mm_PV K)
def jX1_serve_71 (d : Nat) (a1 : Nat) (x2 : Int32) (x3 : Int32) (M : mm_M) (K : mm_M → Prop) (y3 : Int32) (y4 : Int32) (y5 : Int32) : Prop := mm_W mX1_serve (d + 1) 0 0 71 [(0, .ref 21), (1, .ref a1), (3, .int y3), (4, .int y4), (5, .int y5)] [] mm_SH M 0 0 (mm_PV K)
def jX1_serve_130 (d : Nat) (a1 : Nat) (x2 : Int32) (x3 : Int32) (M : mm_M) (K : mm_M → Prop) (y3 : Int32) (y4 : Int32) (y5 : Int32) (y6 : Int32) : Prop := mm_W mX1_serve (d + 1) 0 0 130 [(0, .ref 21), (1, .ref a1), (3, .int y3), (4, .int y4), (5, .int y5), (6, .int y6)] [] mm_SH M 0 0 (mm_PV K)
set_option maxRecDepth 100000 in
set_option maxHeartbeats 4000000 in
theorem rX1_serve {d : Nat} {a1 : Nat} {x2 : Int32} {x3 : Int32} {M : mm_M} {K : mm_M → Prop} (ha1 : a1 ∈ mm_Sts) (hG : mm_G M.2.2) (h : jX1_serve_11 d a1 x2 x3 (mm_uI M 21 4 0) K x3 x2 0) : mm_CV mX1_serve (d + 1) [.ref 21, .ref a1, .int x2, .int x3] M K := by
  show mm_W mX1_serve (d + 1) 0 0 0 [(0, .ref 21), (1, .ref a1), (2, .int x2), (3, .int x3)] [] mm_SH M 0 0 (mm_PV K)
  refine mm_iload_n (pc := 0) (j := 2) dX1_serve_0 rfl rfl ?_
  refine mm_istore (pc := 1) (lv' := [(4, .int x2), (0, .ref 21), (1, .ref a1), (2, .int x2), (3, .int x3)]) dX1_serve_1 (by decide) rfl ?_
  refine mm_aload_n (pc := 3) (j := 1) dX1_serve_3 rfl rfl ?_
  refine mm_iconst (pc := 4) (x := 0) dX1_serve_4 rfl ?_
  refine mm_putI (pc := 5) (ci := 1) (N := 5) dX1_serve_5 fX1_52 sh_21 (by decide +kernel) rfl rfl rfl ?_
  refine mm_iconst (pc := 8) (x := 0) dX1_serve_8 rfl ?_
  refine mm_istore (pc := 9) (lv' := [(5, .int 0), (4, .int x2), (0, .ref 21), (1, .ref a1), (2, .int x2), (3, .int x3)]) dX1_serve_9 (by decide) rfl ?_
  exact mm_sub [2, 3, 5, 1, 0] rfl h
set_option maxRecDepth 100000 in
set_option maxHeartbeats 4000000 in
theorem lX1_serve_11 {d : Nat} {a1 : Nat} {x2 : Int32} {x3 : Int32} {M : mm_M} {K : mm_M → Prop} {y3 : Int32} {y4 : Int32} {y5 : Int32} (ha1 : a1 ∈ mm_Sts) (hG : mm_G M.2.2) (h : if 7 ≤ y5 then (K M) else (vp_in y5 7 ∧ vp_in y5 7 ∧ mm_CI mX9_isThere d [.ref a1, .int y5] (mm_uI (mm_uI M 35 y5.toNatClampNeg (-1)) 36 y5.toNatClampNeg 255) (fun z39 m39 => if z39 = 0 then (jX1_serve_11 d a1 x2 x3 m39 K y3 y4 (y5 + 1)) else (mm_CI mX1_pickBaker d [.ref 21, .ref a1, .int y5, .int y4] m39 (fun z54 m54 => if z54 < 0 then (jX1_serve_71 d a1 x2 x3 m54 K y3 y4 y5) else (if z54 < 7 then (if y3 = 0 then (jX1_serve_130 d a1 x2 x3 m54 K y3 y4 y5 z54) else (mm_CI mX1_tasteOfLoaf d [.ref 21, .ref a1, .int z54, .int y5] m54 (fun z111 m111 => vp_in y5 7 ∧ vp_in y5 7 ∧ mm_CV mX9_keep d [.ref a1, .int z54, .int y5, .int ((mm_uI m111 36 y5.toNatClampNeg z111).1 36 y5.toNatClampNeg)] (mm_uI m111 36 y5.toNatClampNeg z111) (fun m127 => jX1_serve_130 d a1 x2 x3 m127 K y3 y4 y5 z54)))) else (jX1_serve_71 d a1 x2 x3 m54 K y3 y4 y5))))))) : jX1_serve_11 d a1 x2 x3 M K y3 y4 y5 := by
  unfold jX1_serve_11
  refine mm_iload (pc := 11) (j := 4) dX1_serve_11 rfl ?_
  refine mm_bipush (pc := 13) (x := 7) dX1_serve_13 rfl ?_
  refine mm_icmp_ge (pc := 15) (tgt := 189) dX1_serve_15 (by decide) (fun hc => ?_) (fun hc => ?_)
  · have h := mm_ift hc h
    exact mm_vret (pc := 189) dX1_serve_189 rfl (Nat.le_refl 0) (Nat.le_refl 0) ⟨rfl, rfl, hG, h⟩
  · have h := mm_iff hc h
    refine mm_aload_n (pc := 18) (j := 0) dX1_serve_18 rfl rfl ?_
    refine mm_getR (pc := 19) (ci := 1) (N := 5) (r := 35) dX1_serve_19 fX1_25 sh_21 rfl (g_21_2 hG) ?_
    refine mm_iload (pc := 22) (j := 4) dX1_serve_22 rfl ?_
    refine mm_iconst (pc := 24) (x := (-1)) dX1_serve_24 rfl ?_
    obtain ⟨hi25, h⟩ := h
    refine mm_iastore (pc := 25) (N := 7) dX1_serve_25 sh_35 hi25 ?_
    refine mm_aload_n (pc := 26) (j := 0) dX1_serve_26 rfl rfl ?_
    refine mm_getR (pc := 27) (ci := 1) (N := 5) (r := 36) dX1_serve_27 fX1_29 sh_21 rfl (g_21_3 hG) ?_
    refine mm_iload (pc := 30) (j := 4) dX1_serve_30 rfl ?_
    refine mm_sipush (pc := 32) (x := 255) dX1_serve_32 rfl ?_
    obtain ⟨hi35, h⟩ := h
    refine mm_iastore (pc := 35) (N := 7) dX1_serve_35 sh_36 hi35 ?_
    refine mm_aload_n (pc := 36) (j := 1) dX1_serve_36 rfl rfl ?_
    refine mm_iload (pc := 37) (j := 4) dX1_serve_37 rfl ?_
    refine mm_kVI (pc := 39) [.int y5] dX1_serve_39 kX1_55 rfl (sh_St ha1) (Nat.le_of_ble_eq_true rfl) (Nat.le_of_ble_eq_true rfl) h (fun z39 m39 hG h => ?_)
    refine mm_if_ne (pc := 42) (tgt := 48) dX1_serve_42 (by decide) (fun hc => ?_) (fun hc => ?_)
    · have h := mm_iff hc h
      refine mm_aload_n (pc := 48) (j := 0) dX1_serve_48 rfl rfl ?_
      refine mm_aload_n (pc := 49) (j := 1) dX1_serve_49 rfl rfl ?_
      refine mm_iload (pc := 50) (j := 4) dX1_serve_50 rfl ?_
      refine mm_iload (pc := 52) (j := 3) dX1_serve_52 rfl ?_
      refine mm_kVI (pc := 54) [.ref a1, .int y5, .int y4] dX1_serve_54 kX1_59 rfl sh_21 (Nat.le_of_ble_eq_true rfl) (Nat.le_of_ble_eq_true rfl) h (fun z54 m54 hG h => ?_)
      refine mm_istore (pc := 57) (lv' := [(6, .int z54), (0, .ref 21), (1, .ref a1), (3, .int y3), (4, .int y4), (5, .int y5)]) dX1_serve_57 (by decide) rfl ?_
      refine mm_iload (pc := 59) (j := 0) dX1_serve_59 rfl ?_
      refine mm_if_lt (pc := 61) (tgt := 71) dX1_serve_61 (by decide) (fun hc => ?_) (fun hc => ?_)
      · have h := mm_ift hc h
        exact mm_sub [1, 2, 3, 4, 5] rfl h
      · have h := mm_iff hc h
        refine mm_iload (pc := 64) (j := 0) dX1_serve_64 rfl ?_
        refine mm_bipush (pc := 66) (x := 7) dX1_serve_66 rfl ?_
        refine mm_icmp_lt (pc := 68) (tgt := 95) dX1_serve_68 (by decide) (fun hc => ?_) (fun hc => ?_)
        · have h := mm_ift hc h
          refine mm_iload_n (pc := 95) (j := 3) dX1_serve_95 rfl rfl ?_
          refine mm_if_eq (pc := 96) (tgt := 130) dX1_serve_96 (by decide) (fun hc => ?_) (fun hc => ?_)
          · have h := mm_ift hc h
            exact mm_sub [1, 2, 3, 4, 5, 0] rfl h
          · have h := mm_iff hc h
            refine mm_aload_n (pc := 99) (j := 1) dX1_serve_99 rfl rfl ?_
            refine mm_getR (pc := 100) (ci := 1) (N := 5) (r := 36) dX1_serve_100 fX1_29 sh_21 rfl (g_21_3 hG) ?_
            refine mm_iload (pc := 103) (j := 5) dX1_serve_103 rfl ?_
            refine mm_aload_n (pc := 105) (j := 1) dX1_serve_105 rfl rfl ?_
            refine mm_aload_n (pc := 106) (j := 2) dX1_serve_106 rfl rfl ?_
            refine mm_iload (pc := 107) (j := 0) dX1_serve_107 rfl ?_
            refine mm_iload (pc := 109) (j := 5) dX1_serve_109 rfl ?_
            refine mm_kVI (pc := 111) [.ref a1, .int z54, .int y5] dX1_serve_111 kX1_72 rfl sh_21 (Nat.le_of_ble_eq_true rfl) (Nat.le_of_ble_eq_true rfl) h (fun z111 m111 hG h => ?_)
            obtain ⟨hi114, h⟩ := h
            refine mm_iastore (pc := 114) (N := 7) dX1_serve_114 sh_36 hi114 ?_
            refine mm_aload_n (pc := 115) (j := 2) dX1_serve_115 rfl rfl ?_
            refine mm_iload (pc := 116) (j := 0) dX1_serve_116 rfl ?_
            refine mm_iload (pc := 118) (j := 5) dX1_serve_118 rfl ?_
            refine mm_aload_n (pc := 120) (j := 1) dX1_serve_120 rfl rfl ?_
            refine mm_getR (pc := 121) (ci := 1) (N := 5) (r := 36) dX1_serve_121 fX1_29 sh_21 rfl (g_21_3 hG) ?_
            refine mm_iload (pc := 124) (j := 5) dX1_serve_124 rfl ?_
            obtain ⟨hi126, h⟩ := h
            refine mm_iaload (pc := 126) (N := 7) dX1_serve_126 sh_36 hi126 ?_
            refine mm_kVV (pc := 127) [.int z54, .int y5, .int ((mm_uI m111 36 y5.toNatClampNeg z111).1 36 y5.toNatClampNeg)] dX1_serve_127 kX1_75 rfl (sh_St ha1) (Nat.le_of_ble_eq_true rfl) (Nat.le_of_ble_eq_true rfl) h (fun m127 hG h => ?_)
            exact mm_sub [1, 2, 3, 4, 5, 0] rfl h
        · have h := mm_iff hc h
          exact mm_sub [1, 2, 3, 4, 5] rfl h
    · have h := mm_ift hc h
      refine mm_goto (pc := 45) (tgt := 183) dX1_serve_45 (by decide) ?_
      refine mm_iinc (pc := 183) (j := 4) (v := y5 + 1) (lv' := [(5, .int (y5 + 1)), (0, .ref 21), (1, .ref a1), (3, .int y3), (4, .int y4)]) dX1_serve_183 rfl rfl (by decide) rfl ?_
      refine mm_goto (pc := 186) (tgt := 11) dX1_serve_186 (by decide) ?_
      exact mm_sub [1, 2, 3, 4, 0] rfl h
set_option maxRecDepth 100000 in
set_option maxHeartbeats 4000000 in
theorem lX1_serve_71 {d : Nat} {a1 : Nat} {x2 : Int32} {x3 : Int32} {M : mm_M} {K : mm_M → Prop} {y3 : Int32} {y4 : Int32} {y5 : Int32} (ha1 : a1 ∈ mm_Sts) (hG : mm_G M.2.2) (h : vp_in y5 7 ∧ vp_in y5 7 ∧ jX1_serve_11 d a1 x2 x3 (mm_uI M (a1 + 2) y5.toNatClampNeg (if ((M.1 (a1 + 2) y5.toNatClampNeg) + 1) < 9 then ((M.1 (a1 + 2) y5.toNatClampNeg) + 1) else 9)) K y3 y4 (y5 + 1)) : jX1_serve_71 d a1 x2 x3 M K y3 y4 y5 := by
  unfold jX1_serve_71
  refine mm_aload_n (pc := 71) (j := 1) dX1_serve_71 rfl rfl ?_
  refine mm_getR (pc := 72) (ci := 9) (N := 7) (r := a1 + 2) dX1_serve_72 fX1_63 (sh_St ha1) rfl (g_St_4 hG ha1) ?_
  refine mm_iload (pc := 75) (j := 4) dX1_serve_75 rfl ?_
  refine mm_bipush (pc := 77) (x := 9) dX1_serve_77 rfl ?_
  refine mm_aload_n (pc := 79) (j := 1) dX1_serve_79 rfl rfl ?_
  refine mm_getR (pc := 80) (ci := 9) (N := 7) (r := a1 + 2) dX1_serve_80 fX1_63 (sh_St ha1) rfl (g_St_4 hG ha1) ?_
  refine mm_iload (pc := 83) (j := 4) dX1_serve_83 rfl ?_
  obtain ⟨hi85, h⟩ := h
  refine mm_iaload (pc := 85) (N := 7) dX1_serve_85 (sh_St_2 ha1) hi85 ?_
  refine mm_iconst (pc := 86) (x := 1) dX1_serve_86 rfl ?_
  refine mm_iadd (pc := 87) dX1_serve_87 ?_
  refine mm_mmin (pc := 88) dX1_serve_88 kX1_66 ma_min_s ma_ini ma_min_c (Nat.le_of_ble_eq_true rfl) (Nat.le_refl 0) (Nat.le_refl 0) ?_
  obtain ⟨hi91, h⟩ := h
  refine mm_iastore (pc := 91) (N := 7) dX1_serve_91 (sh_St_2 ha1) hi91 ?_
  refine mm_goto (pc := 92) (tgt := 183) dX1_serve_92 (by decide) ?_
  refine mm_iinc (pc := 183) (j := 4) (v := y5 + 1) (lv' := [(5, .int (y5 + 1)), (0, .ref 21), (1, .ref a1), (3, .int y3), (4, .int y4)]) dX1_serve_183 rfl rfl (by decide) rfl ?_
  refine mm_goto (pc := 186) (tgt := 11) dX1_serve_186 (by decide) ?_
  exact mm_sub [1, 2, 3, 4, 0] rfl h
set_option maxRecDepth 100000 in
set_option maxHeartbeats 4000000 in
theorem lX1_serve_130 {d : Nat} {a1 : Nat} {x2 : Int32} {x3 : Int32} {M : mm_M} {K : mm_M → Prop} {y3 : Int32} {y4 : Int32} {y5 : Int32} {y6 : Int32} (ha1 : a1 ∈ mm_Sts) (hG : mm_G M.2.2) (h : vp_in y5 7 ∧ vp_in y6 7 ∧ ∃ q167 : Nat, (mm_uI (mm_uI M 35 y5.toNatClampNeg y6) 21 4 (((mm_uI M 35 y5.toNatClampNeg y6).1 21 4) + 1)).2.2 21 0 = some q167 ∧ q167 ∈ mm_Rls ∧ vp_in y6 7 ∧ vp_in y5 7 ∧ jX1_serve_11 d a1 x2 x3 (mm_uI (mm_uI (mm_uI (mm_uI M 35 y5.toNatClampNeg y6) 21 4 (((mm_uI M 35 y5.toNatClampNeg y6).1 21 4) + 1)) (a1 + 1) y6.toNatClampNeg (((mm_uI (mm_uI M 35 y5.toNatClampNeg y6) 21 4 (((mm_uI M 35 y5.toNatClampNeg y6).1 21 4) + 1)).1 (a1 + 1) y6.toNatClampNeg) - ((mm_uI (mm_uI M 35 y5.toNatClampNeg y6) 21 4 (((mm_uI M 35 y5.toNatClampNeg y6).1 21 4) + 1)).1 q167 1))) (a1 + 2) y5.toNatClampNeg 0) K y3 (y4 ||| ((1 : Int32) <<< (y6 &&& 31))) (y5 + 1)) : jX1_serve_130 d a1 x2 x3 M K y3 y4 y5 y6 := by
  unfold jX1_serve_130
  refine mm_aload_n (pc := 130) (j := 0) dX1_serve_130 rfl rfl ?_
  refine mm_getR (pc := 131) (ci := 1) (N := 5) (r := 35) dX1_serve_131 fX1_25 sh_21 rfl (g_21_2 hG) ?_
  refine mm_iload (pc := 134) (j := 4) dX1_serve_134 rfl ?_
  refine mm_iload (pc := 136) (j := 5) dX1_serve_136 rfl ?_
  obtain ⟨hi138, h⟩ := h
  refine mm_iastore (pc := 138) (N := 7) dX1_serve_138 sh_35 hi138 ?_
  refine mm_iload (pc := 139) (j := 3) dX1_serve_139 rfl ?_
  refine mm_iconst (pc := 141) (x := 1) dX1_serve_141 rfl ?_
  refine mm_iload (pc := 142) (j := 5) dX1_serve_142 rfl ?_
  refine mm_ishl (pc := 144) dX1_serve_144 ?_
  refine mm_ior (pc := 145) dX1_serve_145 ?_
  refine mm_istore (pc := 146) (lv' := [(4, .int (y4 ||| ((1 : Int32) <<< (y6 &&& 31)))), (0, .ref 21), (1, .ref a1), (3, .int y3), (5, .int y5), (6, .int y6)]) dX1_serve_146 (by decide) rfl ?_
  refine mm_aload_n (pc := 148) (j := 1) dX1_serve_148 rfl rfl ?_
  refine mm_dup (pc := 149) dX1_serve_149 rfl ?_
  refine mm_getI (pc := 150) (ci := 1) (N := 5) dX1_serve_150 fX1_52 sh_21 rfl ?_
  refine mm_iconst (pc := 153) (x := 1) dX1_serve_153 rfl ?_
  refine mm_iadd (pc := 154) dX1_serve_154 ?_
  refine mm_putI (pc := 155) (ci := 1) (N := 5) dX1_serve_155 fX1_52 sh_21 (by decide +kernel) rfl rfl rfl ?_
  refine mm_aload_n (pc := 158) (j := 2) dX1_serve_158 rfl rfl ?_
  refine mm_getR (pc := 159) (ci := 9) (N := 7) (r := a1 + 1) dX1_serve_159 fX1_79 (sh_St ha1) rfl (g_St_3 hG ha1) ?_
  refine mm_iload (pc := 162) (j := 5) dX1_serve_162 rfl ?_
  refine mm_dup2 (pc := 164) dX1_serve_164 rfl rfl ?_
  obtain ⟨hi165, h⟩ := h
  refine mm_iaload (pc := 165) (N := 7) dX1_serve_165 (sh_St_1 ha1) hi165 ?_
  refine mm_aload_n (pc := 166) (j := 1) dX1_serve_166 rfl rfl ?_
  obtain ⟨q167, he167, hq167, h⟩ := h
  refine mm_getR (pc := 167) (ci := 1) (N := 5) (r := q167) dX1_serve_167 fX1_12 sh_21 rfl he167 ?_
  refine mm_getI (pc := 170) (ci := 7) (N := 11) dX1_serve_170 fX1_82 (sh_Rl hq167) rfl ?_
  refine mm_isub (pc := 173) dX1_serve_173 ?_
  obtain ⟨hi174, h⟩ := h
  refine mm_iastore (pc := 174) (N := 7) dX1_serve_174 (sh_St_1 ha1) hi174 ?_
  refine mm_aload_n (pc := 175) (j := 2) dX1_serve_175 rfl rfl ?_
  refine mm_getR (pc := 176) (ci := 9) (N := 7) (r := a1 + 2) dX1_serve_176 fX1_63 (sh_St ha1) rfl (g_St_4 hG ha1) ?_
  refine mm_iload (pc := 179) (j := 4) dX1_serve_179 rfl ?_
  refine mm_iconst (pc := 181) (x := 0) dX1_serve_181 rfl ?_
  obtain ⟨hi182, h⟩ := h
  refine mm_iastore (pc := 182) (N := 7) dX1_serve_182 (sh_St_2 ha1) hi182 ?_
  refine mm_iinc (pc := 183) (j := 4) (v := y5 + 1) (lv' := [(5, .int (y5 + 1)), (4, .int (y4 ||| ((1 : Int32) <<< (y6 &&& 31)))), (0, .ref 21), (1, .ref a1), (3, .int y3), (6, .int y6)]) dX1_serve_183 rfl rfl (by decide) rfl ?_
  refine mm_goto (pc := 186) (tgt := 11) dX1_serve_186 (by decide) ?_
  exact mm_sub [2, 3, 4, 1, 0] rfl h
set_option maxRecDepth 100000 in
set_option maxHeartbeats 4000000 in
theorem rX1_tasteOfLoaf {d : Nat} {a1 : Nat} {x2 : Int32} {x3 : Int32} {M : mm_M} {K : Int32 → mm_M → Prop} (ha1 : a1 ∈ mm_Sts) (hG : mm_G M.2.2) (h : mm_CV mX1_tellLoaf d [.ref 21, .ref a1, .int x2, .int x3] M (fun m4 => ∃ q12 : Nat, m4.2.2 21 0 = some q12 ∧ q12 ∈ mm_Rls ∧ ∃ q19 : Nat, m4.2.2 21 0 = some q19 ∧ q19 ∈ mm_Rls ∧ ∃ q28 : Nat, m4.2.2 21 0 = some q28 ∧ q28 ∈ mm_Rls ∧ mm_CI mX5_value d [.ref 30, .ref (q12 + 5), .int (m4.1 (q19 + 6) (1 : Int32).toNatClampNeg), .int (m4.1 (q28 + 7) (1 : Int32).toNatClampNeg)] m4 (fun z36 m36 => mm_CI mX1_bounded d [.int z36] m36 (fun z39 m39 => K z39 m39)))) : mm_CI mX1_tasteOfLoaf (d + 1) [.ref 21, .ref a1, .int x2, .int x3] M K := by
  show mm_W mX1_tasteOfLoaf (d + 1) 0 0 0 [(0, .ref 21), (1, .ref a1), (2, .int x2), (3, .int x3)] [] mm_SH M 0 0 (mm_PI K)
  refine mm_aload_n (pc := 0) (j := 0) dX1_tasteOfLoaf_0 rfl rfl ?_
  refine mm_aload_n (pc := 1) (j := 1) dX1_tasteOfLoaf_1 rfl rfl ?_
  refine mm_iload_n (pc := 2) (j := 2) dX1_tasteOfLoaf_2 rfl rfl ?_
  refine mm_iload_n (pc := 3) (j := 3) dX1_tasteOfLoaf_3 rfl rfl ?_
  refine mm_kVV (pc := 4) [.ref a1, .int x2, .int x3] dX1_tasteOfLoaf_4 kX1_85 rfl sh_21 (Nat.le_of_ble_eq_true rfl) (Nat.le_of_ble_eq_true rfl) h (fun m4 hG h => ?_)
  refine mm_aload_n (pc := 7) (j := 0) dX1_tasteOfLoaf_7 rfl rfl ?_
  refine mm_getR (pc := 8) (ci := 1) (N := 5) (r := 30) dX1_tasteOfLoaf_8 fX1_21 sh_21 rfl (g_21_1 hG) ?_
  refine mm_aload_n (pc := 11) (j := 0) dX1_tasteOfLoaf_11 rfl rfl ?_
  obtain ⟨q12, he12, hq12, h⟩ := h
  refine mm_getR (pc := 12) (ci := 1) (N := 5) (r := q12) dX1_tasteOfLoaf_12 fX1_12 sh_21 rfl he12 ?_
  refine mm_getR (pc := 15) (ci := 7) (N := 11) (r := q12 + 5) dX1_tasteOfLoaf_15 fX1_89 (sh_Rl hq12) rfl (g_Rl_8 hG hq12) ?_
  refine mm_aload_n (pc := 18) (j := 0) dX1_tasteOfLoaf_18 rfl rfl ?_
  obtain ⟨q19, he19, hq19, h⟩ := h
  refine mm_getR (pc := 19) (ci := 1) (N := 5) (r := q19) dX1_tasteOfLoaf_19 fX1_12 sh_21 rfl he19 ?_
  refine mm_getR (pc := 22) (ci := 7) (N := 11) (r := q19 + 6) dX1_tasteOfLoaf_22 fX1_92 (sh_Rl hq19) rfl (g_Rl_9 hG hq19) ?_
  refine mm_iconst (pc := 25) (x := 1) dX1_tasteOfLoaf_25 rfl ?_
  refine mm_iaload (pc := 26) (N := 5) dX1_tasteOfLoaf_26 (sh_Rl_6 hq19) (mm_vin (k := 1) rfl (by decide) (by decide)) ?_
  refine mm_aload_n (pc := 27) (j := 0) dX1_tasteOfLoaf_27 rfl rfl ?_
  obtain ⟨q28, he28, hq28, h⟩ := h
  refine mm_getR (pc := 28) (ci := 1) (N := 5) (r := q28) dX1_tasteOfLoaf_28 fX1_12 sh_21 rfl he28 ?_
  refine mm_getR (pc := 31) (ci := 7) (N := 11) (r := q28 + 7) dX1_tasteOfLoaf_31 fX1_95 (sh_Rl hq28) rfl (g_Rl_10 hG hq28) ?_
  refine mm_iconst (pc := 34) (x := 1) dX1_tasteOfLoaf_34 rfl ?_
  refine mm_iaload (pc := 35) (N := 5) dX1_tasteOfLoaf_35 (sh_Rl_7 hq28) (mm_vin (k := 1) rfl (by decide) (by decide)) ?_
  refine mm_kVI (pc := 36) [.ref (q12 + 5), .int (m4.1 (q19 + 6) (1 : Int32).toNatClampNeg), .int (m4.1 (q28 + 7) (1 : Int32).toNatClampNeg)] dX1_tasteOfLoaf_36 kX1_98 rfl sh_30 (Nat.le_of_ble_eq_true rfl) (Nat.le_of_ble_eq_true rfl) h (fun z36 m36 hG h => ?_)
  refine mm_kSI (pc := 39) [.int z36] dX1_tasteOfLoaf_39 kX1_102 rfl (Nat.le_of_ble_eq_true rfl) (Nat.le_of_ble_eq_true rfl) h (fun z39 m39 hG h => ?_)
  exact mm_iret (pc := 42) dX1_tasteOfLoaf_42 rfl (Nat.le_refl 0) (Nat.le_refl 0) ⟨_, rfl, rfl, hG, h⟩
def jX1_pickBaker_9 (d : Nat) (a1 : Nat) (x2 : Int32) (x3 : Int32) (M : mm_M) (K : Int32 → mm_M → Prop) (y2 : Int32) (y3 : Int32) (y4 : Int32) (y5 : Int32) (y6 : Int32) : Prop := mm_W mX1_pickBaker (d + 1) 0 0 9 [(0, .ref 21), (1, .ref a1), (2, .int y2), (3, .int y3), (4, .int y4), (5, .int y5), (6, .int y6)] [] mm_SH M 0 0 (mm_PI K)
def jX1_pickBaker_97 (d : Nat) (a1 : Nat) (x2 : Int32) (x3 : Int32) (M : mm_M) (K : Int32 → mm_M → Prop) (y2 : Int32) (y4 : Int32) (y5 : Int32) (y6 : Int32) (y7 : Int32) : Prop := mm_W mX1_pickBaker (d + 1) 0 0 97 [(0, .ref 21), (1, .ref a1), (2, .int y2), (4, .int y4), (5, .int y5), (6, .int y6), (7, .int y7)] [] mm_SH M 0 0 (mm_PI K)
set_option maxRecDepth 100000 in
set_option maxHeartbeats 4000000 in
theorem rX1_pickBaker {d : Nat} {a1 : Nat} {x2 : Int32} {x3 : Int32} {M : mm_M} {K : Int32 → mm_M → Prop} (ha1 : a1 ∈ mm_Sts) (hG : mm_G M.2.2) (h : jX1_pickBaker_9 d a1 x2 x3 M K x2 x3 0 (-1) 0) : mm_CI mX1_pickBaker (d + 1) [.ref 21, .ref a1, .int x2, .int x3] M K := by
  show mm_W mX1_pickBaker (d + 1) 0 0 0 [(0, .ref 21), (1, .ref a1), (2, .int x2), (3, .int x3)] [] mm_SH M 0 0 (mm_PI K)
  refine mm_iconst (pc := 0) (x := 0) dX1_pickBaker_0 rfl ?_
  refine mm_istore (pc := 1) (lv' := [(4, .int 0), (0, .ref 21), (1, .ref a1), (2, .int x2), (3, .int x3)]) dX1_pickBaker_1 (by decide) rfl ?_
  refine mm_iconst (pc := 3) (x := (-1)) dX1_pickBaker_3 rfl ?_
  refine mm_istore (pc := 4) (lv' := [(5, .int (-1)), (4, .int 0), (0, .ref 21), (1, .ref a1), (2, .int x2), (3, .int x3)]) dX1_pickBaker_4 (by decide) rfl ?_
  refine mm_iconst (pc := 6) (x := 0) dX1_pickBaker_6 rfl ?_
  refine mm_istore (pc := 7) (lv' := [(6, .int 0), (5, .int (-1)), (4, .int 0), (0, .ref 21), (1, .ref a1), (2, .int x2), (3, .int x3)]) dX1_pickBaker_7 (by decide) rfl ?_
  exact mm_sub [3, 4, 5, 6, 2, 1, 0] rfl h
set_option maxRecDepth 100000 in
set_option maxHeartbeats 4000000 in
theorem lX1_pickBaker_9 {d : Nat} {a1 : Nat} {x2 : Int32} {x3 : Int32} {M : mm_M} {K : Int32 → mm_M → Prop} {y2 : Int32} {y3 : Int32} {y4 : Int32} {y5 : Int32} {y6 : Int32} (ha1 : a1 ∈ mm_Sts) (hG : mm_G M.2.2) (h : if 7 ≤ y6 then (mm_CI mJ6_bitCount_0f7a4 d [.int y4] M (fun z78 m78 => if 2 ≤ z78 then (jX1_pickBaker_97 d a1 x2 x3 m78 K y2 y4 (-1) 0 0) else (K y5 m78))) else (vp_in ((8 * y2) + y6) 64 ∧ if (M.1 (a1 + 3) ((8 * y2) + y6).toNatClampNeg) ≤ 0 then (jX1_pickBaker_9 d a1 x2 x3 M K y2 y3 y4 y5 (y6 + 1)) else (vp_in y6 7 ∧ ∃ q39 : Nat, M.2.2 21 0 = some q39 ∧ q39 ∈ mm_Rls ∧ if (M.1 (a1 + 1) y6.toNatClampNeg) < (M.1 q39 1) then (jX1_pickBaker_9 d a1 x2 x3 M K y2 y3 y4 y5 (y6 + 1)) else (if ((y3 >>> (y6 &&& 31)) &&& 1) = 0 then (jX1_pickBaker_9 d a1 x2 x3 M K y2 y3 (y4 ||| ((1 : Int32) <<< (y6 &&& 31))) y6 (y6 + 1)) else (jX1_pickBaker_9 d a1 x2 x3 M K y2 y3 y4 y5 (y6 + 1)))))) : jX1_pickBaker_9 d a1 x2 x3 M K y2 y3 y4 y5 y6 := by
  unfold jX1_pickBaker_9
  refine mm_iload (pc := 9) (j := 6) dX1_pickBaker_9 rfl ?_
  refine mm_bipush (pc := 11) (x := 7) dX1_pickBaker_11 rfl ?_
  refine mm_icmp_ge (pc := 13) (tgt := 76) dX1_pickBaker_13 (by decide) (fun hc => ?_) (fun hc => ?_)
  · have h := mm_ift hc h
    refine mm_iload (pc := 76) (j := 4) dX1_pickBaker_76 rfl ?_
    refine mm_kSI (pc := 78) [.int y4] dX1_pickBaker_78 kX1_109 rfl (Nat.le_of_ble_eq_true rfl) (Nat.le_of_ble_eq_true rfl) h (fun z78 m78 hG h => ?_)
    refine mm_iconst (pc := 81) (x := 2) dX1_pickBaker_81 rfl ?_
    refine mm_icmp_ge (pc := 82) (tgt := 88) dX1_pickBaker_82 (by decide) (fun hc => ?_) (fun hc => ?_)
    · have h := mm_ift hc h
      refine mm_iconst (pc := 88) (x := (-1)) dX1_pickBaker_88 rfl ?_
      refine mm_istore (pc := 89) (lv' := [(5, .int (-1)), (0, .ref 21), (1, .ref a1), (2, .int y2), (3, .int y3), (4, .int y4), (6, .int y6)]) dX1_pickBaker_89 (by decide) rfl ?_
      refine mm_iconst (pc := 91) (x := 0) dX1_pickBaker_91 rfl ?_
      refine mm_istore (pc := 92) (lv' := [(6, .int 0), (5, .int (-1)), (0, .ref 21), (1, .ref a1), (2, .int y2), (3, .int y3), (4, .int y4)]) dX1_pickBaker_92 (by decide) rfl ?_
      refine mm_iconst (pc := 94) (x := 0) dX1_pickBaker_94 rfl ?_
      refine mm_istore (pc := 95) (lv' := [(7, .int 0), (6, .int 0), (5, .int (-1)), (0, .ref 21), (1, .ref a1), (2, .int y2), (3, .int y3), (4, .int y4)]) dX1_pickBaker_95 (by decide) rfl ?_
      exact mm_sub [3, 4, 5, 7, 2, 1, 0] rfl h
    · have h := mm_iff hc h
      refine mm_iload (pc := 85) (j := 5) dX1_pickBaker_85 rfl ?_
      exact mm_iret (pc := 87) dX1_pickBaker_87 rfl (Nat.le_refl 0) (Nat.le_refl 0) ⟨_, rfl, rfl, hG, h⟩
  · have h := mm_iff hc h
    refine mm_aload_n (pc := 16) (j := 1) dX1_pickBaker_16 rfl rfl ?_
    refine mm_getR (pc := 17) (ci := 9) (N := 7) (r := a1 + 3) dX1_pickBaker_17 fX1_106 (sh_St ha1) rfl (g_St_5 hG ha1) ?_
    refine mm_bipush (pc := 20) (x := 8) dX1_pickBaker_20 rfl ?_
    refine mm_iload_n (pc := 22) (j := 2) dX1_pickBaker_22 rfl rfl ?_
    refine mm_imul (pc := 23) dX1_pickBaker_23 ?_
    refine mm_iload (pc := 24) (j := 6) dX1_pickBaker_24 rfl ?_
    refine mm_iadd (pc := 26) dX1_pickBaker_26 ?_
    obtain ⟨hi27, h⟩ := h
    refine mm_iaload (pc := 27) (N := 64) dX1_pickBaker_27 (sh_St_3 ha1) hi27 ?_
    refine mm_if_le (pc := 28) (tgt := 70) dX1_pickBaker_28 (by decide) (fun hc => ?_) (fun hc => ?_)
    · have h := mm_ift hc h
      refine mm_iinc (pc := 70) (j := 6) (v := y6 + 1) (lv' := [(6, .int (y6 + 1)), (0, .ref 21), (1, .ref a1), (2, .int y2), (3, .int y3), (4, .int y4), (5, .int y5)]) dX1_pickBaker_70 rfl rfl (by decide) rfl ?_
      refine mm_goto (pc := 73) (tgt := 9) dX1_pickBaker_73 (by decide) ?_
      exact mm_sub [1, 2, 3, 4, 5, 6, 0] rfl h
    · have h := mm_iff hc h
      refine mm_aload_n (pc := 31) (j := 1) dX1_pickBaker_31 rfl rfl ?_
      refine mm_getR (pc := 32) (ci := 9) (N := 7) (r := a1 + 1) dX1_pickBaker_32 fX1_79 (sh_St ha1) rfl (g_St_3 hG ha1) ?_
      refine mm_iload (pc := 35) (j := 6) dX1_pickBaker_35 rfl ?_
      obtain ⟨hi37, h⟩ := h
      refine mm_iaload (pc := 37) (N := 7) dX1_pickBaker_37 (sh_St_1 ha1) hi37 ?_
      refine mm_aload_n (pc := 38) (j := 0) dX1_pickBaker_38 rfl rfl ?_
      obtain ⟨q39, he39, hq39, h⟩ := h
      refine mm_getR (pc := 39) (ci := 1) (N := 5) (r := q39) dX1_pickBaker_39 fX1_12 sh_21 rfl he39 ?_
      refine mm_getI (pc := 42) (ci := 7) (N := 11) dX1_pickBaker_42 fX1_82 (sh_Rl hq39) rfl ?_
      refine mm_icmp_lt (pc := 45) (tgt := 70) dX1_pickBaker_45 (by decide) (fun hc => ?_) (fun hc => ?_)
      · have h := mm_ift hc h
        refine mm_iinc (pc := 70) (j := 6) (v := y6 + 1) (lv' := [(6, .int (y6 + 1)), (0, .ref 21), (1, .ref a1), (2, .int y2), (3, .int y3), (4, .int y4), (5, .int y5)]) dX1_pickBaker_70 rfl rfl (by decide) rfl ?_
        refine mm_goto (pc := 73) (tgt := 9) dX1_pickBaker_73 (by decide) ?_
        exact mm_sub [1, 2, 3, 4, 5, 6, 0] rfl h
      · have h := mm_iff hc h
        refine mm_iload_n (pc := 48) (j := 3) dX1_pickBaker_48 rfl rfl ?_
        refine mm_iload (pc := 49) (j := 6) dX1_pickBaker_49 rfl ?_
        refine mm_ishr (pc := 51) dX1_pickBaker_51 ?_
        refine mm_iconst (pc := 52) (x := 1) dX1_pickBaker_52 rfl ?_
        refine mm_iand (pc := 53) dX1_pickBaker_53 ?_
        refine mm_if_ne (pc := 54) (tgt := 70) dX1_pickBaker_54 (by decide) (fun hc => ?_) (fun hc => ?_)
        · have h := mm_iff hc h
          refine mm_iinc (pc := 70) (j := 6) (v := y6 + 1) (lv' := [(6, .int (y6 + 1)), (0, .ref 21), (1, .ref a1), (2, .int y2), (3, .int y3), (4, .int y4), (5, .int y5)]) dX1_pickBaker_70 rfl rfl (by decide) rfl ?_
          refine mm_goto (pc := 73) (tgt := 9) dX1_pickBaker_73 (by decide) ?_
          exact mm_sub [1, 2, 3, 4, 5, 6, 0] rfl h
        · have h := mm_ift hc h
          refine mm_iload (pc := 57) (j := 4) dX1_pickBaker_57 rfl ?_
          refine mm_iconst (pc := 59) (x := 1) dX1_pickBaker_59 rfl ?_
          refine mm_iload (pc := 60) (j := 6) dX1_pickBaker_60 rfl ?_
          refine mm_ishl (pc := 62) dX1_pickBaker_62 ?_
          refine mm_ior (pc := 63) dX1_pickBaker_63 ?_
          refine mm_istore (pc := 64) (lv' := [(4, .int (y4 ||| ((1 : Int32) <<< (y6 &&& 31)))), (0, .ref 21), (1, .ref a1), (2, .int y2), (3, .int y3), (5, .int y5), (6, .int y6)]) dX1_pickBaker_64 (by decide) rfl ?_
          refine mm_iload (pc := 66) (j := 6) dX1_pickBaker_66 rfl ?_
          refine mm_istore (pc := 68) (lv' := [(5, .int y6), (4, .int (y4 ||| ((1 : Int32) <<< (y6 &&& 31)))), (0, .ref 21), (1, .ref a1), (2, .int y2), (3, .int y3), (6, .int y6)]) dX1_pickBaker_68 (by decide) rfl ?_
          refine mm_iinc (pc := 70) (j := 6) (v := y6 + 1) (lv' := [(6, .int (y6 + 1)), (5, .int y6), (4, .int (y4 ||| ((1 : Int32) <<< (y6 &&& 31)))), (0, .ref 21), (1, .ref a1), (2, .int y2), (3, .int y3)]) dX1_pickBaker_70 rfl rfl (by decide) rfl ?_
          refine mm_goto (pc := 73) (tgt := 9) dX1_pickBaker_73 (by decide) ?_
          exact mm_sub [3, 4, 5, 6, 2, 1, 0] rfl h
set_option maxRecDepth 100000 in
set_option maxHeartbeats 4000000 in
theorem lX1_pickBaker_97 {d : Nat} {a1 : Nat} {x2 : Int32} {x3 : Int32} {M : mm_M} {K : Int32 → mm_M → Prop} {y2 : Int32} {y4 : Int32} {y5 : Int32} {y6 : Int32} {y7 : Int32} (ha1 : a1 ∈ mm_Sts) (hG : mm_G M.2.2) (h : if 7 ≤ y7 then (K y5 M) else (if ((y4 >>> (y7 &&& 31)) &&& 1) = 0 then (jX1_pickBaker_97 d a1 x2 x3 M K y2 y4 y5 y6 (y7 + 1)) else (mm_CV mX1_tellLoaf d [.ref 21, .ref a1, .int y7, .int y2] M (fun m119 => ∃ q127 : Nat, m119.2.2 21 0 = some q127 ∧ q127 ∈ mm_Rls ∧ ∃ q134 : Nat, m119.2.2 21 0 = some q134 ∧ q134 ∈ mm_Rls ∧ ∃ q143 : Nat, m119.2.2 21 0 = some q143 ∧ q143 ∈ mm_Rls ∧ mm_CI mX5_value d [.ref 30, .ref (q127 + 5), .int (m119.1 (q134 + 6) (0 : Int32).toNatClampNeg), .int (m119.1 (q143 + 7) (0 : Int32).toNatClampNeg)] m119 (fun z151 m151 => if y5 = (-1) then (jX1_pickBaker_97 d a1 x2 x3 m151 K y2 y4 y7 z151 (y7 + 1)) else (if z151 ≤ y6 then (jX1_pickBaker_97 d a1 x2 x3 m151 K y2 y4 y5 y6 (y7 + 1)) else (jX1_pickBaker_97 d a1 x2 x3 m151 K y2 y4 y7 z151 (y7 + 1)))))))) : jX1_pickBaker_97 d a1 x2 x3 M K y2 y4 y5 y6 y7 := by
  unfold jX1_pickBaker_97
  refine mm_iload (pc := 97) (j := 6) dX1_pickBaker_97 rfl ?_
  refine mm_bipush (pc := 99) (x := 7) dX1_pickBaker_99 rfl ?_
  refine mm_icmp_ge (pc := 101) (tgt := 183) dX1_pickBaker_101 (by decide) (fun hc => ?_) (fun hc => ?_)
  · have h := mm_ift hc h
    refine mm_iload (pc := 183) (j := 4) dX1_pickBaker_183 rfl ?_
    exact mm_iret (pc := 185) dX1_pickBaker_185 rfl (Nat.le_refl 0) (Nat.le_refl 0) ⟨_, rfl, rfl, hG, h⟩
  · have h := mm_iff hc h
    refine mm_iload (pc := 104) (j := 3) dX1_pickBaker_104 rfl ?_
    refine mm_iload (pc := 106) (j := 6) dX1_pickBaker_106 rfl ?_
    refine mm_ishr (pc := 108) dX1_pickBaker_108 ?_
    refine mm_iconst (pc := 109) (x := 1) dX1_pickBaker_109 rfl ?_
    refine mm_iand (pc := 110) dX1_pickBaker_110 ?_
    refine mm_if_eq (pc := 111) (tgt := 177) dX1_pickBaker_111 (by decide) (fun hc => ?_) (fun hc => ?_)
    · have h := mm_ift hc h
      refine mm_iinc (pc := 177) (j := 6) (v := y7 + 1) (lv' := [(7, .int (y7 + 1)), (0, .ref 21), (1, .ref a1), (2, .int y2), (4, .int y4), (5, .int y5), (6, .int y6)]) dX1_pickBaker_177 rfl rfl (by decide) rfl ?_
      refine mm_goto (pc := 180) (tgt := 97) dX1_pickBaker_180 (by decide) ?_
      exact mm_sub [1, 2, 3, 4, 5, 6, 0] rfl h
    · have h := mm_iff hc h
      refine mm_aload_n (pc := 114) (j := 0) dX1_pickBaker_114 rfl rfl ?_
      refine mm_aload_n (pc := 115) (j := 1) dX1_pickBaker_115 rfl rfl ?_
      refine mm_iload (pc := 116) (j := 6) dX1_pickBaker_116 rfl ?_
      refine mm_iload_n (pc := 118) (j := 2) dX1_pickBaker_118 rfl rfl ?_
      refine mm_kVV (pc := 119) [.ref a1, .int y7, .int y2] dX1_pickBaker_119 kX1_85 rfl sh_21 (Nat.le_of_ble_eq_true rfl) (Nat.le_of_ble_eq_true rfl) h (fun m119 hG h => ?_)
      refine mm_aload_n (pc := 122) (j := 0) dX1_pickBaker_122 rfl rfl ?_
      refine mm_getR (pc := 123) (ci := 1) (N := 5) (r := 30) dX1_pickBaker_123 fX1_21 sh_21 rfl (g_21_1 hG) ?_
      refine mm_aload_n (pc := 126) (j := 0) dX1_pickBaker_126 rfl rfl ?_
      obtain ⟨q127, he127, hq127, h⟩ := h
      refine mm_getR (pc := 127) (ci := 1) (N := 5) (r := q127) dX1_pickBaker_127 fX1_12 sh_21 rfl he127 ?_
      refine mm_getR (pc := 130) (ci := 7) (N := 11) (r := q127 + 5) dX1_pickBaker_130 fX1_89 (sh_Rl hq127) rfl (g_Rl_8 hG hq127) ?_
      refine mm_aload_n (pc := 133) (j := 0) dX1_pickBaker_133 rfl rfl ?_
      obtain ⟨q134, he134, hq134, h⟩ := h
      refine mm_getR (pc := 134) (ci := 1) (N := 5) (r := q134) dX1_pickBaker_134 fX1_12 sh_21 rfl he134 ?_
      refine mm_getR (pc := 137) (ci := 7) (N := 11) (r := q134 + 6) dX1_pickBaker_137 fX1_92 (sh_Rl hq134) rfl (g_Rl_9 hG hq134) ?_
      refine mm_iconst (pc := 140) (x := 0) dX1_pickBaker_140 rfl ?_
      refine mm_iaload (pc := 141) (N := 5) dX1_pickBaker_141 (sh_Rl_6 hq134) (mm_vin (k := 0) rfl (by decide) (by decide)) ?_
      refine mm_aload_n (pc := 142) (j := 0) dX1_pickBaker_142 rfl rfl ?_
      obtain ⟨q143, he143, hq143, h⟩ := h
      refine mm_getR (pc := 143) (ci := 1) (N := 5) (r := q143) dX1_pickBaker_143 fX1_12 sh_21 rfl he143 ?_
      refine mm_getR (pc := 146) (ci := 7) (N := 11) (r := q143 + 7) dX1_pickBaker_146 fX1_95 (sh_Rl hq143) rfl (g_Rl_10 hG hq143) ?_
      refine mm_iconst (pc := 149) (x := 0) dX1_pickBaker_149 rfl ?_
      refine mm_iaload (pc := 150) (N := 5) dX1_pickBaker_150 (sh_Rl_7 hq143) (mm_vin (k := 0) rfl (by decide) (by decide)) ?_
      refine mm_kVI (pc := 151) [.ref (q127 + 5), .int (m119.1 (q134 + 6) (0 : Int32).toNatClampNeg), .int (m119.1 (q143 + 7) (0 : Int32).toNatClampNeg)] dX1_pickBaker_151 kX1_98 rfl sh_30 (Nat.le_of_ble_eq_true rfl) (Nat.le_of_ble_eq_true rfl) h (fun z151 m151 hG h => ?_)
      refine mm_istore (pc := 154) (lv' := [(8, .int z151), (0, .ref 21), (1, .ref a1), (2, .int y2), (4, .int y4), (5, .int y5), (6, .int y6), (7, .int y7)]) dX1_pickBaker_154 (by decide) rfl ?_
      refine mm_iload (pc := 156) (j := 5) dX1_pickBaker_156 rfl ?_
      refine mm_iconst (pc := 158) (x := (-1)) dX1_pickBaker_158 rfl ?_
      refine mm_icmp_eq (pc := 159) (tgt := 169) dX1_pickBaker_159 (by decide) (fun hc => ?_) (fun hc => ?_)
      · have h := mm_ift hc h
        refine mm_iload (pc := 169) (j := 7) dX1_pickBaker_169 rfl ?_
        refine mm_istore (pc := 171) (lv' := [(5, .int y7), (8, .int z151), (0, .ref 21), (1, .ref a1), (2, .int y2), (4, .int y4), (6, .int y6), (7, .int y7)]) dX1_pickBaker_171 (by decide) rfl ?_
        refine mm_iload (pc := 173) (j := 1) dX1_pickBaker_173 rfl ?_
        refine mm_istore (pc := 175) (lv' := [(6, .int z151), (5, .int y7), (8, .int z151), (0, .ref 21), (1, .ref a1), (2, .int y2), (4, .int y4), (7, .int y7)]) dX1_pickBaker_175 (by decide) rfl ?_
        refine mm_iinc (pc := 177) (j := 7) (v := y7 + 1) (lv' := [(7, .int (y7 + 1)), (6, .int z151), (5, .int y7), (8, .int z151), (0, .ref 21), (1, .ref a1), (2, .int y2), (4, .int y4)]) dX1_pickBaker_177 rfl rfl (by decide) rfl ?_
        refine mm_goto (pc := 180) (tgt := 97) dX1_pickBaker_180 (by decide) ?_
        exact mm_sub [4, 5, 6, 7, 2, 1, 0] rfl h
      · have h := mm_iff hc h
        refine mm_iload (pc := 162) (j := 0) dX1_pickBaker_162 rfl ?_
        refine mm_iload (pc := 164) (j := 6) dX1_pickBaker_164 rfl ?_
        refine mm_icmp_le (pc := 166) (tgt := 177) dX1_pickBaker_166 (by decide) (fun hc => ?_) (fun hc => ?_)
        · have h := mm_ift hc h
          refine mm_iinc (pc := 177) (j := 7) (v := y7 + 1) (lv' := [(7, .int (y7 + 1)), (8, .int z151), (0, .ref 21), (1, .ref a1), (2, .int y2), (4, .int y4), (5, .int y5), (6, .int y6)]) dX1_pickBaker_177 rfl rfl (by decide) rfl ?_
          refine mm_goto (pc := 180) (tgt := 97) dX1_pickBaker_180 (by decide) ?_
          exact mm_sub [2, 3, 4, 5, 6, 7, 0] rfl h
        · have h := mm_iff hc h
          refine mm_iload (pc := 169) (j := 7) dX1_pickBaker_169 rfl ?_
          refine mm_istore (pc := 171) (lv' := [(5, .int y7), (8, .int z151), (0, .ref 21), (1, .ref a1), (2, .int y2), (4, .int y4), (6, .int y6), (7, .int y7)]) dX1_pickBaker_171 (by decide) rfl ?_
          refine mm_iload (pc := 173) (j := 1) dX1_pickBaker_173 rfl ?_
          refine mm_istore (pc := 175) (lv' := [(6, .int z151), (5, .int y7), (8, .int z151), (0, .ref 21), (1, .ref a1), (2, .int y2), (4, .int y4), (7, .int y7)]) dX1_pickBaker_175 (by decide) rfl ?_
          refine mm_iinc (pc := 177) (j := 7) (v := y7 + 1) (lv' := [(7, .int (y7 + 1)), (6, .int z151), (5, .int y7), (8, .int z151), (0, .ref 21), (1, .ref a1), (2, .int y2), (4, .int y4)]) dX1_pickBaker_177 rfl rfl (by decide) rfl ?_
          refine mm_goto (pc := 180) (tgt := 97) dX1_pickBaker_180 (by decide) ?_
          exact mm_sub [4, 5, 6, 7, 2, 1, 0] rfl h
def jX1_starve_2 (d : Nat) (a1 : Nat) (M : mm_M) (K : mm_M → Prop) (y2 : Int32) : Prop := mm_W mX1_starve (d + 1) 0 0 2 [(0, .ref 21), (1, .ref a1), (2, .int y2)] [] mm_SH M 0 0 (mm_PV K)
set_option maxRecDepth 100000 in
set_option maxHeartbeats 4000000 in
theorem rX1_starve {d : Nat} {a1 : Nat} {M : mm_M} {K : mm_M → Prop} (ha1 : a1 ∈ mm_Sts) (hG : mm_G M.2.2) (h : jX1_starve_2 d a1 M K 0) : mm_CV mX1_starve (d + 1) [.ref 21, .ref a1] M K := by
  show mm_W mX1_starve (d + 1) 0 0 0 [(0, .ref 21), (1, .ref a1)] [] mm_SH M 0 0 (mm_PV K)
  refine mm_iconst (pc := 0) (x := 0) dX1_starve_0 rfl ?_
  refine mm_istore_n (pc := 1) (lv' := [(2, .int 0), (0, .ref 21), (1, .ref a1)]) dX1_starve_1 rfl (by decide) rfl ?_
  exact mm_sub [1, 2, 0] rfl h
set_option maxRecDepth 100000 in
set_option maxHeartbeats 4000000 in
theorem lX1_starve_2 {d : Nat} {a1 : Nat} {M : mm_M} {K : mm_M → Prop} {y2 : Int32} (ha1 : a1 ∈ mm_Sts) (hG : mm_G M.2.2) (h : if 7 ≤ y2 then (K M) else (mm_CI mX9_isThere d [.ref a1, .int y2] M (fun z10 m10 => if z10 = 0 then (jX1_starve_2 d a1 m10 K (y2 + 1)) else (mm_CV mX1_tellHouse d [.ref 21, .ref a1, .int y2] m10 (fun m19 => ∃ q27 : Nat, m19.2.2 21 0 = some q27 ∧ q27 ∈ mm_Rls ∧ ∃ q34 : Nat, m19.2.2 21 0 = some q34 ∧ q34 ∈ mm_Rls ∧ ∃ q43 : Nat, m19.2.2 21 0 = some q43 ∧ q43 ∈ mm_Rls ∧ mm_CI mX5_value d [.ref 30, .ref (q27 + 5), .int (m19.1 (q34 + 6) (2 : Int32).toNatClampNeg), .int (m19.1 (q43 + 7) (2 : Int32).toNatClampNeg)] m19 (fun z51 m51 => if z51 = 0 then (jX1_starve_2 d a1 m51 K (y2 + 1)) else (mm_CV mX9_bury d [.ref a1, .int y2] m51 (fun m61 => jX1_starve_2 d a1 m61 K (y2 + 1))))))))) : jX1_starve_2 d a1 M K y2 := by
  unfold jX1_starve_2
  refine mm_iload_n (pc := 2) (j := 2) dX1_starve_2 rfl rfl ?_
  refine mm_bipush (pc := 3) (x := 7) dX1_starve_3 rfl ?_
  refine mm_icmp_ge (pc := 5) (tgt := 70) dX1_starve_5 (by decide) (fun hc => ?_) (fun hc => ?_)
  · have h := mm_ift hc h
    exact mm_vret (pc := 70) dX1_starve_70 rfl (Nat.le_refl 0) (Nat.le_refl 0) ⟨rfl, rfl, hG, h⟩
  · have h := mm_iff hc h
    refine mm_aload_n (pc := 8) (j := 1) dX1_starve_8 rfl rfl ?_
    refine mm_iload_n (pc := 9) (j := 2) dX1_starve_9 rfl rfl ?_
    refine mm_kVI (pc := 10) [.int y2] dX1_starve_10 kX1_55 rfl (sh_St ha1) (Nat.le_of_ble_eq_true rfl) (Nat.le_of_ble_eq_true rfl) h (fun z10 m10 hG h => ?_)
    refine mm_if_eq (pc := 13) (tgt := 64) dX1_starve_13 (by decide) (fun hc => ?_) (fun hc => ?_)
    · have h := mm_ift hc h
      refine mm_iinc (pc := 64) (j := 2) (v := y2 + 1) (lv' := [(2, .int (y2 + 1)), (0, .ref 21), (1, .ref a1)]) dX1_starve_64 rfl rfl (by decide) rfl ?_
      refine mm_goto (pc := 67) (tgt := 2) dX1_starve_67 (by decide) ?_
      exact mm_sub [1, 2, 0] rfl h
    · have h := mm_iff hc h
      refine mm_aload_n (pc := 16) (j := 0) dX1_starve_16 rfl rfl ?_
      refine mm_aload_n (pc := 17) (j := 1) dX1_starve_17 rfl rfl ?_
      refine mm_iload_n (pc := 18) (j := 2) dX1_starve_18 rfl rfl ?_
      refine mm_kVV (pc := 19) [.ref a1, .int y2] dX1_starve_19 kX1_114 rfl sh_21 (Nat.le_of_ble_eq_true rfl) (Nat.le_of_ble_eq_true rfl) h (fun m19 hG h => ?_)
      refine mm_aload_n (pc := 22) (j := 0) dX1_starve_22 rfl rfl ?_
      refine mm_getR (pc := 23) (ci := 1) (N := 5) (r := 30) dX1_starve_23 fX1_21 sh_21 rfl (g_21_1 hG) ?_
      refine mm_aload_n (pc := 26) (j := 0) dX1_starve_26 rfl rfl ?_
      obtain ⟨q27, he27, hq27, h⟩ := h
      refine mm_getR (pc := 27) (ci := 1) (N := 5) (r := q27) dX1_starve_27 fX1_12 sh_21 rfl he27 ?_
      refine mm_getR (pc := 30) (ci := 7) (N := 11) (r := q27 + 5) dX1_starve_30 fX1_89 (sh_Rl hq27) rfl (g_Rl_8 hG hq27) ?_
      refine mm_aload_n (pc := 33) (j := 0) dX1_starve_33 rfl rfl ?_
      obtain ⟨q34, he34, hq34, h⟩ := h
      refine mm_getR (pc := 34) (ci := 1) (N := 5) (r := q34) dX1_starve_34 fX1_12 sh_21 rfl he34 ?_
      refine mm_getR (pc := 37) (ci := 7) (N := 11) (r := q34 + 6) dX1_starve_37 fX1_92 (sh_Rl hq34) rfl (g_Rl_9 hG hq34) ?_
      refine mm_iconst (pc := 40) (x := 2) dX1_starve_40 rfl ?_
      refine mm_iaload (pc := 41) (N := 5) dX1_starve_41 (sh_Rl_6 hq34) (mm_vin (k := 2) rfl (by decide) (by decide)) ?_
      refine mm_aload_n (pc := 42) (j := 0) dX1_starve_42 rfl rfl ?_
      obtain ⟨q43, he43, hq43, h⟩ := h
      refine mm_getR (pc := 43) (ci := 1) (N := 5) (r := q43) dX1_starve_43 fX1_12 sh_21 rfl he43 ?_
      refine mm_getR (pc := 46) (ci := 7) (N := 11) (r := q43 + 7) dX1_starve_46 fX1_95 (sh_Rl hq43) rfl (g_Rl_10 hG hq43) ?_
      refine mm_iconst (pc := 49) (x := 2) dX1_starve_49 rfl ?_
      refine mm_iaload (pc := 50) (N := 5) dX1_starve_50 (sh_Rl_7 hq43) (mm_vin (k := 2) rfl (by decide) (by decide)) ?_
      refine mm_kVI (pc := 51) [.ref (q27 + 5), .int (m19.1 (q34 + 6) (2 : Int32).toNatClampNeg), .int (m19.1 (q43 + 7) (2 : Int32).toNatClampNeg)] dX1_starve_51 kX1_98 rfl sh_30 (Nat.le_of_ble_eq_true rfl) (Nat.le_of_ble_eq_true rfl) h (fun z51 m51 hG h => ?_)
      refine mm_istore_n (pc := 54) (lv' := [(3, .int z51), (0, .ref 21), (1, .ref a1), (2, .int y2)]) dX1_starve_54 rfl (by decide) rfl ?_
      refine mm_iload_n (pc := 55) (j := 0) dX1_starve_55 rfl rfl ?_
      refine mm_if_eq (pc := 56) (tgt := 64) dX1_starve_56 (by decide) (fun hc => ?_) (fun hc => ?_)
      · have h := mm_ift hc h
        refine mm_iinc (pc := 64) (j := 3) (v := y2 + 1) (lv' := [(2, .int (y2 + 1)), (3, .int z51), (0, .ref 21), (1, .ref a1)]) dX1_starve_64 rfl rfl (by decide) rfl ?_
        refine mm_goto (pc := 67) (tgt := 2) dX1_starve_67 (by decide) ?_
        exact mm_sub [2, 3, 0] rfl h
      · have h := mm_iff hc h
        refine mm_aload_n (pc := 59) (j := 2) dX1_starve_59 rfl rfl ?_
        refine mm_iload_n (pc := 60) (j := 3) dX1_starve_60 rfl rfl ?_
        refine mm_kVV (pc := 61) [.int y2] dX1_starve_61 kX1_118 rfl (sh_St ha1) (Nat.le_of_ble_eq_true rfl) (Nat.le_of_ble_eq_true rfl) h (fun m61 hG h => ?_)
        refine mm_iinc (pc := 64) (j := 3) (v := y2 + 1) (lv' := [(2, .int (y2 + 1)), (3, .int z51), (0, .ref 21), (1, .ref a1)]) dX1_starve_64 rfl rfl (by decide) rfl ?_
        refine mm_goto (pc := 67) (tgt := 2) dX1_starve_67 (by decide) ?_
        exact mm_sub [2, 3, 0] rfl h
def jX1_cool_16 (d : Nat) (a1 : Nat) (M : mm_M) (K : mm_M → Prop) (y2 : Int32) : Prop := mm_W mX1_cool (d + 1) 0 0 16 [(0, .ref 21), (1, .ref a1), (2, .int y2)] [] mm_SH M 0 0 (mm_PV K)
def jX1_cool_26 (d : Nat) (a1 : Nat) (M : mm_M) (K : mm_M → Prop) (y2 : Int32) (y3 : Int32) : Prop := mm_W mX1_cool (d + 1) 0 0 26 [(0, .ref 21), (1, .ref a1), (2, .int y2), (3, .int y3)] [] mm_SH M 0 0 (mm_PV K)
def jX1_cool_101 (d : Nat) (a1 : Nat) (M : mm_M) (K : mm_M → Prop) (y2 : Int32) (y3 : Int32) (u0 : Int32) (u1 : Int32) (u2 : Int32) : Prop := mm_W mX1_cool (d + 1) 0 0 101 [(0, .ref 21), (1, .ref a1), (2, .int y2), (3, .int y3)] [.int u0, .int u1, .int u2, .ref 31] mm_SH M 0 0 (mm_PV K)
set_option maxRecDepth 100000 in
set_option maxHeartbeats 4000000 in
theorem rX1_cool {d : Nat} {a1 : Nat} {M : mm_M} {K : mm_M → Prop} (ha1 : a1 ∈ mm_Sts) (hG : mm_G M.2.2) (h : jX1_cool_16 d a1 (mm_uI M 31 (13 : Int32).toNatClampNeg (M.1 a1 0)) K 0) : mm_CV mX1_cool (d + 1) [.ref 21, .ref a1] M K := by
  show mm_W mX1_cool (d + 1) 0 0 0 [(0, .ref 21), (1, .ref a1)] [] mm_SH M 0 0 (mm_PV K)
  refine mm_aload_n (pc := 0) (j := 0) dX1_cool_0 rfl rfl ?_
  refine mm_getR (pc := 1) (ci := 1) (N := 5) (r := 30) dX1_cool_1 fX1_21 sh_21 rfl (g_21_1 hG) ?_
  refine mm_getR (pc := 4) (ci := 5) (N := 4) (r := 31) dX1_cool_4 fX1_122 sh_30 rfl (g_30_0 hG) ?_
  refine mm_bipush (pc := 7) (x := 13) dX1_cool_7 rfl ?_
  refine mm_aload_n (pc := 9) (j := 1) dX1_cool_9 rfl rfl ?_
  refine mm_getI (pc := 10) (ci := 9) (N := 7) dX1_cool_10 fX1_46 (sh_St ha1) rfl ?_
  refine mm_iastore (pc := 13) (N := 24) dX1_cool_13 sh_31 (mm_vin (k := 13) rfl (by decide) (by decide)) ?_
  refine mm_iconst (pc := 14) (x := 0) dX1_cool_14 rfl ?_
  refine mm_istore_n (pc := 15) (lv' := [(2, .int 0), (0, .ref 21), (1, .ref a1)]) dX1_cool_15 rfl (by decide) rfl ?_
  exact mm_sub [1, 2, 0] rfl h
set_option maxRecDepth 100000 in
set_option maxHeartbeats 4000000 in
theorem lX1_cool_16 {d : Nat} {a1 : Nat} {M : mm_M} {K : mm_M → Prop} {y2 : Int32} (ha1 : a1 ∈ mm_Sts) (hG : mm_G M.2.2) (h : if 7 ≤ y2 then (K M) else (jX1_cool_26 d a1 M K y2 (y2 + 1))) : jX1_cool_16 d a1 M K y2 := by
  unfold jX1_cool_16
  refine mm_iload_n (pc := 16) (j := 2) dX1_cool_16 rfl rfl ?_
  refine mm_bipush (pc := 17) (x := 7) dX1_cool_17 rfl ?_
  refine mm_icmp_ge (pc := 19) (tgt := 160) dX1_cool_19 (by decide) (fun hc => ?_) (fun hc => ?_)
  · have h := mm_ift hc h
    exact mm_vret (pc := 160) dX1_cool_160 rfl (Nat.le_refl 0) (Nat.le_refl 0) ⟨rfl, rfl, hG, h⟩
  · have h := mm_iff hc h
    refine mm_iload_n (pc := 22) (j := 2) dX1_cool_22 rfl rfl ?_
    refine mm_iconst (pc := 23) (x := 1) dX1_cool_23 rfl ?_
    refine mm_iadd (pc := 24) dX1_cool_24 ?_
    refine mm_istore_n (pc := 25) (lv' := [(3, .int (y2 + 1)), (0, .ref 21), (1, .ref a1), (2, .int y2)]) dX1_cool_25 rfl (by decide) rfl ?_
    exact mm_sub [1, 2, 3, 0] rfl h
set_option maxRecDepth 100000 in
set_option maxHeartbeats 4000000 in
theorem lX1_cool_26 {d : Nat} {a1 : Nat} {M : mm_M} {K : mm_M → Prop} {y2 : Int32} {y3 : Int32} (ha1 : a1 ∈ mm_Sts) (hG : mm_G M.2.2) (h : if 7 ≤ y3 then (jX1_cool_16 d a1 M K (y2 + 1)) else (vp_in ((8 * y2) + y3) 64 ∧ if (M.1 (a1 + 3) ((8 * y2) + y3).toNatClampNeg) ≤ 0 then (jX1_cool_26 d a1 M K y2 (y3 + 1)) else (vp_in y2 7 ∧ if ((mm_uI M 31 (6 : Int32).toNatClampNeg (M.1 (a1 + 3) ((8 * y2) + y3).toNatClampNeg)).1 35 y2.toNatClampNeg) = y3 then (vp_in y3 7 ∧ if ((mm_uI M 31 (6 : Int32).toNatClampNeg (M.1 (a1 + 3) ((8 * y2) + y3).toNatClampNeg)).1 35 y3.toNatClampNeg) = y2 then (jX1_cool_101 d a1 (mm_uI M 31 (6 : Int32).toNatClampNeg (M.1 (a1 + 3) ((8 * y2) + y3).toNatClampNeg)) K y2 y3 1 1 15) else (jX1_cool_101 d a1 (mm_uI M 31 (6 : Int32).toNatClampNeg (M.1 (a1 + 3) ((8 * y2) + y3).toNatClampNeg)) K y2 y3 0 1 15)) else (vp_in y3 7 ∧ if ((mm_uI M 31 (6 : Int32).toNatClampNeg (M.1 (a1 + 3) ((8 * y2) + y3).toNatClampNeg)).1 35 y3.toNatClampNeg) = y2 then (jX1_cool_101 d a1 (mm_uI M 31 (6 : Int32).toNatClampNeg (M.1 (a1 + 3) ((8 * y2) + y3).toNatClampNeg)) K y2 y3 1 0 15) else (jX1_cool_101 d a1 (mm_uI M 31 (6 : Int32).toNatClampNeg (M.1 (a1 + 3) ((8 * y2) + y3).toNatClampNeg)) K y2 y3 0 0 15))))) : jX1_cool_26 d a1 M K y2 y3 := by
  unfold jX1_cool_26
  refine mm_iload_n (pc := 26) (j := 3) dX1_cool_26 rfl rfl ?_
  refine mm_bipush (pc := 27) (x := 7) dX1_cool_27 rfl ?_
  refine mm_icmp_ge (pc := 29) (tgt := 154) dX1_cool_29 (by decide) (fun hc => ?_) (fun hc => ?_)
  · have h := mm_ift hc h
    refine mm_iinc (pc := 154) (j := 2) (v := y2 + 1) (lv' := [(2, .int (y2 + 1)), (0, .ref 21), (1, .ref a1), (3, .int y3)]) dX1_cool_154 rfl rfl (by decide) rfl ?_
    refine mm_goto (pc := 157) (tgt := 16) dX1_cool_157 (by decide) ?_
    exact mm_sub [1, 2, 0] rfl h
  · have h := mm_iff hc h
    refine mm_aload_n (pc := 32) (j := 1) dX1_cool_32 rfl rfl ?_
    refine mm_getR (pc := 33) (ci := 9) (N := 7) (r := a1 + 3) dX1_cool_33 fX1_106 (sh_St ha1) rfl (g_St_5 hG ha1) ?_
    refine mm_bipush (pc := 36) (x := 8) dX1_cool_36 rfl ?_
    refine mm_iload_n (pc := 38) (j := 2) dX1_cool_38 rfl rfl ?_
    refine mm_imul (pc := 39) dX1_cool_39 ?_
    refine mm_iload_n (pc := 40) (j := 3) dX1_cool_40 rfl rfl ?_
    refine mm_iadd (pc := 41) dX1_cool_41 ?_
    obtain ⟨hi42, h⟩ := h
    refine mm_iaload (pc := 42) (N := 64) dX1_cool_42 (sh_St_3 ha1) hi42 ?_
    refine mm_istore (pc := 43) (lv' := [(4, .int (M.1 (a1 + 3) ((8 * y2) + y3).toNatClampNeg)), (0, .ref 21), (1, .ref a1), (2, .int y2), (3, .int y3)]) dX1_cool_43 (by decide) rfl ?_
    refine mm_iload (pc := 45) (j := 0) dX1_cool_45 rfl ?_
    refine mm_if_le (pc := 47) (tgt := 148) dX1_cool_47 (by decide) (fun hc => ?_) (fun hc => ?_)
    · have h := mm_ift hc h
      refine mm_iinc (pc := 148) (j := 4) (v := y3 + 1) (lv' := [(3, .int (y3 + 1)), (4, .int (M.1 (a1 + 3) ((8 * y2) + y3).toNatClampNeg)), (0, .ref 21), (1, .ref a1), (2, .int y2)]) dX1_cool_148 rfl rfl (by decide) rfl ?_
      refine mm_goto (pc := 151) (tgt := 26) dX1_cool_151 (by decide) ?_
      exact mm_sub [2, 3, 4, 0] rfl h
    · have h := mm_iff hc h
      refine mm_aload_n (pc := 50) (j := 1) dX1_cool_50 rfl rfl ?_
      refine mm_getR (pc := 51) (ci := 1) (N := 5) (r := 30) dX1_cool_51 fX1_21 sh_21 rfl (g_21_1 hG) ?_
      refine mm_getR (pc := 54) (ci := 5) (N := 4) (r := 31) dX1_cool_54 fX1_122 sh_30 rfl (g_30_0 hG) ?_
      refine mm_bipush (pc := 57) (x := 6) dX1_cool_57 rfl ?_
      refine mm_iload (pc := 59) (j := 0) dX1_cool_59 rfl ?_
      refine mm_iastore (pc := 61) (N := 24) dX1_cool_61 sh_31 (mm_vin (k := 6) rfl (by decide) (by decide)) ?_
      refine mm_aload_n (pc := 62) (j := 1) dX1_cool_62 rfl rfl ?_
      refine mm_getR (pc := 63) (ci := 1) (N := 5) (r := 30) dX1_cool_63 fX1_21 sh_21 rfl (g_21_1 hG) ?_
      refine mm_getR (pc := 66) (ci := 5) (N := 4) (r := 31) dX1_cool_66 fX1_122 sh_30 rfl (g_30_0 hG) ?_
      refine mm_bipush (pc := 69) (x := 15) dX1_cool_69 rfl ?_
      refine mm_aload_n (pc := 71) (j := 1) dX1_cool_71 rfl rfl ?_
      refine mm_getR (pc := 72) (ci := 1) (N := 5) (r := 35) dX1_cool_72 fX1_25 sh_21 rfl (g_21_2 hG) ?_
      refine mm_iload_n (pc := 75) (j := 3) dX1_cool_75 rfl rfl ?_
      obtain ⟨hi76, h⟩ := h
      refine mm_iaload (pc := 76) (N := 7) dX1_cool_76 sh_35 hi76 ?_
      refine mm_iload_n (pc := 77) (j := 4) dX1_cool_77 rfl rfl ?_
      refine mm_icmp_ne (pc := 78) (tgt := 85) dX1_cool_78 (by decide) (fun hc => ?_) (fun hc => ?_)
      · have h := mm_iff hc h
        refine mm_iconst (pc := 85) (x := 0) dX1_cool_85 rfl ?_
        refine mm_aload_n (pc := 86) (j := 1) dX1_cool_86 rfl rfl ?_
        refine mm_getR (pc := 87) (ci := 1) (N := 5) (r := 35) dX1_cool_87 fX1_25 sh_21 rfl (g_21_2 hG) ?_
        refine mm_iload_n (pc := 90) (j := 4) dX1_cool_90 rfl rfl ?_
        obtain ⟨hi91, h⟩ := h
        refine mm_iaload (pc := 91) (N := 7) dX1_cool_91 sh_35 hi91 ?_
        refine mm_iload_n (pc := 92) (j := 3) dX1_cool_92 rfl rfl ?_
        refine mm_icmp_ne (pc := 93) (tgt := 100) dX1_cool_93 (by decide) (fun hc => ?_) (fun hc => ?_)
        · have h := mm_iff hc h
          refine mm_iconst (pc := 100) (x := 0) dX1_cool_100 rfl ?_
          exact mm_sub [1, 2, 3, 4] rfl h
        · have h := mm_ift hc h
          refine mm_iconst (pc := 96) (x := 1) dX1_cool_96 rfl ?_
          refine mm_goto (pc := 97) (tgt := 101) dX1_cool_97 (by decide) ?_
          exact mm_sub [1, 2, 3, 4] rfl h
      · have h := mm_ift hc h
        refine mm_iconst (pc := 81) (x := 1) dX1_cool_81 rfl ?_
        refine mm_goto (pc := 82) (tgt := 86) dX1_cool_82 (by decide) ?_
        refine mm_aload_n (pc := 86) (j := 1) dX1_cool_86 rfl rfl ?_
        refine mm_getR (pc := 87) (ci := 1) (N := 5) (r := 35) dX1_cool_87 fX1_25 sh_21 rfl (g_21_2 hG) ?_
        refine mm_iload_n (pc := 90) (j := 4) dX1_cool_90 rfl rfl ?_
        obtain ⟨hi91, h⟩ := h
        refine mm_iaload (pc := 91) (N := 7) dX1_cool_91 sh_35 hi91 ?_
        refine mm_iload_n (pc := 92) (j := 3) dX1_cool_92 rfl rfl ?_
        refine mm_icmp_ne (pc := 93) (tgt := 100) dX1_cool_93 (by decide) (fun hc => ?_) (fun hc => ?_)
        · have h := mm_iff hc h
          refine mm_iconst (pc := 100) (x := 0) dX1_cool_100 rfl ?_
          exact mm_sub [1, 2, 3, 4] rfl h
        · have h := mm_ift hc h
          refine mm_iconst (pc := 96) (x := 1) dX1_cool_96 rfl ?_
          refine mm_goto (pc := 97) (tgt := 101) dX1_cool_97 (by decide) ?_
          exact mm_sub [1, 2, 3, 4] rfl h
set_option maxRecDepth 100000 in
set_option maxHeartbeats 4000000 in
theorem lX1_cool_101 {d : Nat} {a1 : Nat} {M : mm_M} {K : mm_M → Prop} {y2 : Int32} {y3 : Int32} {u0 : Int32} {u1 : Int32} {u2 : Int32} (ha1 : a1 ∈ mm_Sts) (hG : mm_G M.2.2) (h : vp_in u2 24 ∧ ∃ q108 : Nat, (mm_uI M 31 u2.toNatClampNeg (u1 + u0)).2.2 21 0 = some q108 ∧ q108 ∈ mm_Rls ∧ ∃ q115 : Nat, (mm_uI M 31 u2.toNatClampNeg (u1 + u0)).2.2 21 0 = some q115 ∧ q115 ∈ mm_Rls ∧ ∃ q124 : Nat, (mm_uI M 31 u2.toNatClampNeg (u1 + u0)).2.2 21 0 = some q124 ∧ q124 ∈ mm_Rls ∧ mm_CI mX5_value d [.ref 30, .ref (q108 + 5), .int ((mm_uI M 31 u2.toNatClampNeg (u1 + u0)).1 (q115 + 6) (3 : Int32).toNatClampNeg), .int ((mm_uI M 31 u2.toNatClampNeg (u1 + u0)).1 (q124 + 7) (3 : Int32).toNatClampNeg)] (mm_uI M 31 u2.toNatClampNeg (u1 + u0)) (fun z132 m132 => mm_CI mX1_bounded d [.int z132] m132 (fun z142 m142 => mm_CV mX9_setHate d [.ref a1, .int y2, .int y3, .int z142] m142 (fun m145 => jX1_cool_26 d a1 m145 K y2 (y3 + 1))))) : jX1_cool_101 d a1 M K y2 y3 u0 u1 u2 := by
  unfold jX1_cool_101
  refine mm_iadd (pc := 101) dX1_cool_101 ?_
  obtain ⟨hi102, h⟩ := h
  refine mm_iastore (pc := 102) (N := 24) dX1_cool_102 sh_31 hi102 ?_
  refine mm_aload_n (pc := 103) (j := 0) dX1_cool_103 rfl rfl ?_
  refine mm_getR (pc := 104) (ci := 1) (N := 5) (r := 30) dX1_cool_104 fX1_21 sh_21 rfl (g_21_1 hG) ?_
  refine mm_aload_n (pc := 107) (j := 0) dX1_cool_107 rfl rfl ?_
  obtain ⟨q108, he108, hq108, h⟩ := h
  refine mm_getR (pc := 108) (ci := 1) (N := 5) (r := q108) dX1_cool_108 fX1_12 sh_21 rfl he108 ?_
  refine mm_getR (pc := 111) (ci := 7) (N := 11) (r := q108 + 5) dX1_cool_111 fX1_89 (sh_Rl hq108) rfl (g_Rl_8 hG hq108) ?_
  refine mm_aload_n (pc := 114) (j := 0) dX1_cool_114 rfl rfl ?_
  obtain ⟨q115, he115, hq115, h⟩ := h
  refine mm_getR (pc := 115) (ci := 1) (N := 5) (r := q115) dX1_cool_115 fX1_12 sh_21 rfl he115 ?_
  refine mm_getR (pc := 118) (ci := 7) (N := 11) (r := q115 + 6) dX1_cool_118 fX1_92 (sh_Rl hq115) rfl (g_Rl_9 hG hq115) ?_
  refine mm_iconst (pc := 121) (x := 3) dX1_cool_121 rfl ?_
  refine mm_iaload (pc := 122) (N := 5) dX1_cool_122 (sh_Rl_6 hq115) (mm_vin (k := 3) rfl (by decide) (by decide)) ?_
  refine mm_aload_n (pc := 123) (j := 0) dX1_cool_123 rfl rfl ?_
  obtain ⟨q124, he124, hq124, h⟩ := h
  refine mm_getR (pc := 124) (ci := 1) (N := 5) (r := q124) dX1_cool_124 fX1_12 sh_21 rfl he124 ?_
  refine mm_getR (pc := 127) (ci := 7) (N := 11) (r := q124 + 7) dX1_cool_127 fX1_95 (sh_Rl hq124) rfl (g_Rl_10 hG hq124) ?_
  refine mm_iconst (pc := 130) (x := 3) dX1_cool_130 rfl ?_
  refine mm_iaload (pc := 131) (N := 5) dX1_cool_131 (sh_Rl_7 hq124) (mm_vin (k := 3) rfl (by decide) (by decide)) ?_
  refine mm_kVI (pc := 132) [.ref (q108 + 5), .int ((mm_uI M 31 u2.toNatClampNeg (u1 + u0)).1 (q115 + 6) (3 : Int32).toNatClampNeg), .int ((mm_uI M 31 u2.toNatClampNeg (u1 + u0)).1 (q124 + 7) (3 : Int32).toNatClampNeg)] dX1_cool_132 kX1_98 rfl sh_30 (Nat.le_of_ble_eq_true rfl) (Nat.le_of_ble_eq_true rfl) h (fun z132 m132 hG h => ?_)
  refine mm_istore (pc := 135) (lv' := [(5, .int z132), (0, .ref 21), (1, .ref a1), (2, .int y2), (3, .int y3)]) dX1_cool_135 (by decide) rfl ?_
  refine mm_aload_n (pc := 137) (j := 2) dX1_cool_137 rfl rfl ?_
  refine mm_iload_n (pc := 138) (j := 3) dX1_cool_138 rfl rfl ?_
  refine mm_iload_n (pc := 139) (j := 4) dX1_cool_139 rfl rfl ?_
  refine mm_iload (pc := 140) (j := 0) dX1_cool_140 rfl ?_
  refine mm_kSI (pc := 142) [.int z132] dX1_cool_142 kX1_102 rfl (Nat.le_of_ble_eq_true rfl) (Nat.le_of_ble_eq_true rfl) h (fun z142 m142 hG h => ?_)
  refine mm_kVV (pc := 145) [.int y2, .int y3, .int z142] dX1_cool_145 kX1_127 rfl (sh_St ha1) (Nat.le_of_ble_eq_true rfl) (Nat.le_of_ble_eq_true rfl) h (fun m145 hG h => ?_)
  refine mm_iinc (pc := 148) (j := 4) (v := y3 + 1) (lv' := [(3, .int (y3 + 1)), (5, .int z132), (0, .ref 21), (1, .ref a1), (2, .int y2)]) dX1_cool_148 rfl rfl (by decide) rfl ?_
  refine mm_goto (pc := 151) (tgt := 26) dX1_cool_151 (by decide) ?_
  exact mm_sub [2, 3, 4, 0] rfl h
def jX1_grow_2 (d : Nat) (a1 : Nat) (M : mm_M) (K : mm_M → Prop) (y2 : Int32) : Prop := mm_W mX1_grow (d + 1) 0 0 2 [(0, .ref 21), (1, .ref a1), (2, .int y2)] [] mm_SH M 0 0 (mm_PV K)
set_option maxRecDepth 100000 in
set_option maxHeartbeats 4000000 in
theorem rX1_grow {d : Nat} {a1 : Nat} {M : mm_M} {K : mm_M → Prop} (ha1 : a1 ∈ mm_Sts) (hG : mm_G M.2.2) (h : jX1_grow_2 d a1 M K 0) : mm_CV mX1_grow (d + 1) [.ref 21, .ref a1] M K := by
  show mm_W mX1_grow (d + 1) 0 0 0 [(0, .ref 21), (1, .ref a1)] [] mm_SH M 0 0 (mm_PV K)
  refine mm_iconst (pc := 0) (x := 0) dX1_grow_0 rfl ?_
  refine mm_istore_n (pc := 1) (lv' := [(2, .int 0), (0, .ref 21), (1, .ref a1)]) dX1_grow_1 rfl (by decide) rfl ?_
  exact mm_sub [1, 2, 0] rfl h
set_option maxRecDepth 100000 in
set_option maxHeartbeats 4000000 in
theorem lX1_grow_2 {d : Nat} {a1 : Nat} {M : mm_M} {K : mm_M → Prop} {y2 : Int32} (ha1 : a1 ∈ mm_Sts) (hG : mm_G M.2.2) (h : if 7 ≤ y2 then (K M) else (mm_CI mX9_isThere d [.ref a1, .int y2] M (fun z10 m10 => if z10 = 0 then (jX1_grow_2 d a1 m10 K (y2 + 1)) else (mm_CV mX1_tellHouse d [.ref 21, .ref a1, .int y2] m10 (fun m19 => ∃ q27 : Nat, m19.2.2 21 0 = some q27 ∧ q27 ∈ mm_Rls ∧ ∃ q34 : Nat, m19.2.2 21 0 = some q34 ∧ q34 ∈ mm_Rls ∧ ∃ q43 : Nat, m19.2.2 21 0 = some q43 ∧ q43 ∈ mm_Rls ∧ mm_CI mX5_value d [.ref 30, .ref (q27 + 5), .int (m19.1 (q34 + 6) (4 : Int32).toNatClampNeg), .int (m19.1 (q43 + 7) (4 : Int32).toNatClampNeg)] m19 (fun z51 m51 => vp_in y2 7 ∧ mm_CI mX1_bounded d [.int ((m51.1 (a1 + 1) y2.toNatClampNeg) + z51)] m51 (fun z68 m68 => vp_in y2 7 ∧ jX1_grow_2 d a1 (mm_uI m68 (a1 + 1) y2.toNatClampNeg z68) K (y2 + 1)))))))) : jX1_grow_2 d a1 M K y2 := by
  unfold jX1_grow_2
  refine mm_iload_n (pc := 2) (j := 2) dX1_grow_2 rfl rfl ?_
  refine mm_bipush (pc := 3) (x := 7) dX1_grow_3 rfl ?_
  refine mm_icmp_ge (pc := 5) (tgt := 78) dX1_grow_5 (by decide) (fun hc => ?_) (fun hc => ?_)
  · have h := mm_ift hc h
    exact mm_vret (pc := 78) dX1_grow_78 rfl (Nat.le_refl 0) (Nat.le_refl 0) ⟨rfl, rfl, hG, h⟩
  · have h := mm_iff hc h
    refine mm_aload_n (pc := 8) (j := 1) dX1_grow_8 rfl rfl ?_
    refine mm_iload_n (pc := 9) (j := 2) dX1_grow_9 rfl rfl ?_
    refine mm_kVI (pc := 10) [.int y2] dX1_grow_10 kX1_55 rfl (sh_St ha1) (Nat.le_of_ble_eq_true rfl) (Nat.le_of_ble_eq_true rfl) h (fun z10 m10 hG h => ?_)
    refine mm_if_eq (pc := 13) (tgt := 72) dX1_grow_13 (by decide) (fun hc => ?_) (fun hc => ?_)
    · have h := mm_ift hc h
      refine mm_iinc (pc := 72) (j := 2) (v := y2 + 1) (lv' := [(2, .int (y2 + 1)), (0, .ref 21), (1, .ref a1)]) dX1_grow_72 rfl rfl (by decide) rfl ?_
      refine mm_goto (pc := 75) (tgt := 2) dX1_grow_75 (by decide) ?_
      exact mm_sub [1, 2, 0] rfl h
    · have h := mm_iff hc h
      refine mm_aload_n (pc := 16) (j := 0) dX1_grow_16 rfl rfl ?_
      refine mm_aload_n (pc := 17) (j := 1) dX1_grow_17 rfl rfl ?_
      refine mm_iload_n (pc := 18) (j := 2) dX1_grow_18 rfl rfl ?_
      refine mm_kVV (pc := 19) [.ref a1, .int y2] dX1_grow_19 kX1_114 rfl sh_21 (Nat.le_of_ble_eq_true rfl) (Nat.le_of_ble_eq_true rfl) h (fun m19 hG h => ?_)
      refine mm_aload_n (pc := 22) (j := 0) dX1_grow_22 rfl rfl ?_
      refine mm_getR (pc := 23) (ci := 1) (N := 5) (r := 30) dX1_grow_23 fX1_21 sh_21 rfl (g_21_1 hG) ?_
      refine mm_aload_n (pc := 26) (j := 0) dX1_grow_26 rfl rfl ?_
      obtain ⟨q27, he27, hq27, h⟩ := h
      refine mm_getR (pc := 27) (ci := 1) (N := 5) (r := q27) dX1_grow_27 fX1_12 sh_21 rfl he27 ?_
      refine mm_getR (pc := 30) (ci := 7) (N := 11) (r := q27 + 5) dX1_grow_30 fX1_89 (sh_Rl hq27) rfl (g_Rl_8 hG hq27) ?_
      refine mm_aload_n (pc := 33) (j := 0) dX1_grow_33 rfl rfl ?_
      obtain ⟨q34, he34, hq34, h⟩ := h
      refine mm_getR (pc := 34) (ci := 1) (N := 5) (r := q34) dX1_grow_34 fX1_12 sh_21 rfl he34 ?_
      refine mm_getR (pc := 37) (ci := 7) (N := 11) (r := q34 + 6) dX1_grow_37 fX1_92 (sh_Rl hq34) rfl (g_Rl_9 hG hq34) ?_
      refine mm_iconst (pc := 40) (x := 4) dX1_grow_40 rfl ?_
      refine mm_iaload (pc := 41) (N := 5) dX1_grow_41 (sh_Rl_6 hq34) (mm_vin (k := 4) rfl (by decide) (by decide)) ?_
      refine mm_aload_n (pc := 42) (j := 0) dX1_grow_42 rfl rfl ?_
      obtain ⟨q43, he43, hq43, h⟩ := h
      refine mm_getR (pc := 43) (ci := 1) (N := 5) (r := q43) dX1_grow_43 fX1_12 sh_21 rfl he43 ?_
      refine mm_getR (pc := 46) (ci := 7) (N := 11) (r := q43 + 7) dX1_grow_46 fX1_95 (sh_Rl hq43) rfl (g_Rl_10 hG hq43) ?_
      refine mm_iconst (pc := 49) (x := 4) dX1_grow_49 rfl ?_
      refine mm_iaload (pc := 50) (N := 5) dX1_grow_50 (sh_Rl_7 hq43) (mm_vin (k := 4) rfl (by decide) (by decide)) ?_
      refine mm_kVI (pc := 51) [.ref (q27 + 5), .int (m19.1 (q34 + 6) (4 : Int32).toNatClampNeg), .int (m19.1 (q43 + 7) (4 : Int32).toNatClampNeg)] dX1_grow_51 kX1_98 rfl sh_30 (Nat.le_of_ble_eq_true rfl) (Nat.le_of_ble_eq_true rfl) h (fun z51 m51 hG h => ?_)
      refine mm_istore_n (pc := 54) (lv' := [(3, .int z51), (0, .ref 21), (1, .ref a1), (2, .int y2)]) dX1_grow_54 rfl (by decide) rfl ?_
      refine mm_aload_n (pc := 55) (j := 2) dX1_grow_55 rfl rfl ?_
      refine mm_getR (pc := 56) (ci := 9) (N := 7) (r := a1 + 1) dX1_grow_56 fX1_79 (sh_St ha1) rfl (g_St_3 hG ha1) ?_
      refine mm_iload_n (pc := 59) (j := 3) dX1_grow_59 rfl rfl ?_
      refine mm_aload_n (pc := 60) (j := 2) dX1_grow_60 rfl rfl ?_
      refine mm_getR (pc := 61) (ci := 9) (N := 7) (r := a1 + 1) dX1_grow_61 fX1_79 (sh_St ha1) rfl (g_St_3 hG ha1) ?_
      refine mm_iload_n (pc := 64) (j := 3) dX1_grow_64 rfl rfl ?_
      obtain ⟨hi65, h⟩ := h
      refine mm_iaload (pc := 65) (N := 7) dX1_grow_65 (sh_St_1 ha1) hi65 ?_
      refine mm_iload_n (pc := 66) (j := 0) dX1_grow_66 rfl rfl ?_
      refine mm_iadd (pc := 67) dX1_grow_67 ?_
      refine mm_kSI (pc := 68) [.int ((m51.1 (a1 + 1) y2.toNatClampNeg) + z51)] dX1_grow_68 kX1_102 rfl (Nat.le_of_ble_eq_true rfl) (Nat.le_of_ble_eq_true rfl) h (fun z68 m68 hG h => ?_)
      obtain ⟨hi71, h⟩ := h
      refine mm_iastore (pc := 71) (N := 7) dX1_grow_71 (sh_St_1 ha1) hi71 ?_
      refine mm_iinc (pc := 72) (j := 3) (v := y2 + 1) (lv' := [(2, .int (y2 + 1)), (3, .int z51), (0, .ref 21), (1, .ref a1)]) dX1_grow_72 rfl rfl (by decide) rfl ?_
      refine mm_goto (pc := 75) (tgt := 2) dX1_grow_75 (by decide) ?_
      exact mm_sub [2, 3, 0] rfl h
set_option maxRecDepth 100000 in
set_option maxHeartbeats 4000000 in
theorem rX1_tellLoaf {d : Nat} {a1 : Nat} {x2 : Int32} {x3 : Int32} {M : mm_M} {K : mm_M → Prop} (ha1 : a1 ∈ mm_Sts) (hG : mm_G M.2.2) (h : if x2 < 0 then (K (mm_uI M 31 (13 : Int32).toNatClampNeg (M.1 a1 0))) else (if 7 ≤ x2 then (K (mm_uI M 31 (13 : Int32).toNatClampNeg (M.1 a1 0))) else (if x3 < 0 then (K (mm_uI M 31 (13 : Int32).toNatClampNeg (M.1 a1 0))) else (if 7 ≤ x3 then (K (mm_uI M 31 (13 : Int32).toNatClampNeg (M.1 a1 0))) else (vp_in x2 7 ∧ ∃ q58 : Nat, (mm_uI (mm_uI M 31 (13 : Int32).toNatClampNeg (M.1 a1 0)) 31 (2 : Int32).toNatClampNeg ((mm_uI M 31 (13 : Int32).toNatClampNeg (M.1 a1 0)).1 (a1 + 1) x2.toNatClampNeg)).2.2 21 0 = some q58 ∧ q58 ∈ mm_Rls ∧ vp_in x2 7 ∧ vp_in x3 7 ∧ vp_in ((8 * x3) + x2) 64 ∧ K (mm_uI (mm_uI (mm_uI (mm_uI (mm_uI M 31 (13 : Int32).toNatClampNeg (M.1 a1 0)) 31 (2 : Int32).toNatClampNeg ((mm_uI M 31 (13 : Int32).toNatClampNeg (M.1 a1 0)).1 (a1 + 1) x2.toNatClampNeg)) 31 (3 : Int32).toNatClampNeg ((mm_uI (mm_uI M 31 (13 : Int32).toNatClampNeg (M.1 a1 0)) 31 (2 : Int32).toNatClampNeg ((mm_uI M 31 (13 : Int32).toNatClampNeg (M.1 a1 0)).1 (a1 + 1) x2.toNatClampNeg)).1 (q58 + 3) x2.toNatClampNeg)) 31 (14 : Int32).toNatClampNeg ((mm_uI (mm_uI (mm_uI M 31 (13 : Int32).toNatClampNeg (M.1 a1 0)) 31 (2 : Int32).toNatClampNeg ((mm_uI M 31 (13 : Int32).toNatClampNeg (M.1 a1 0)).1 (a1 + 1) x2.toNatClampNeg)) 31 (3 : Int32).toNatClampNeg ((mm_uI (mm_uI M 31 (13 : Int32).toNatClampNeg (M.1 a1 0)) 31 (2 : Int32).toNatClampNeg ((mm_uI M 31 (13 : Int32).toNatClampNeg (M.1 a1 0)).1 (a1 + 1) x2.toNatClampNeg)).1 (q58 + 3) x2.toNatClampNeg)).1 (a1 + 2) x3.toNatClampNeg)) 31 (6 : Int32).toNatClampNeg ((mm_uI (mm_uI (mm_uI (mm_uI M 31 (13 : Int32).toNatClampNeg (M.1 a1 0)) 31 (2 : Int32).toNatClampNeg ((mm_uI M 31 (13 : Int32).toNatClampNeg (M.1 a1 0)).1 (a1 + 1) x2.toNatClampNeg)) 31 (3 : Int32).toNatClampNeg ((mm_uI (mm_uI M 31 (13 : Int32).toNatClampNeg (M.1 a1 0)) 31 (2 : Int32).toNatClampNeg ((mm_uI M 31 (13 : Int32).toNatClampNeg (M.1 a1 0)).1 (a1 + 1) x2.toNatClampNeg)).1 (q58 + 3) x2.toNatClampNeg)) 31 (14 : Int32).toNatClampNeg ((mm_uI (mm_uI (mm_uI M 31 (13 : Int32).toNatClampNeg (M.1 a1 0)) 31 (2 : Int32).toNatClampNeg ((mm_uI M 31 (13 : Int32).toNatClampNeg (M.1 a1 0)).1 (a1 + 1) x2.toNatClampNeg)) 31 (3 : Int32).toNatClampNeg ((mm_uI (mm_uI M 31 (13 : Int32).toNatClampNeg (M.1 a1 0)) 31 (2 : Int32).toNatClampNeg ((mm_uI M 31 (13 : Int32).toNatClampNeg (M.1 a1 0)).1 (a1 + 1) x2.toNatClampNeg)).1 (q58 + 3) x2.toNatClampNeg)).1 (a1 + 2) x3.toNatClampNeg)).1 (a1 + 3) ((8 * x3) + x2).toNatClampNeg))))))) : mm_CV mX1_tellLoaf d [.ref 21, .ref a1, .int x2, .int x3] M K := by
  show mm_W mX1_tellLoaf d 0 0 0 [(0, .ref 21), (1, .ref a1), (2, .int x2), (3, .int x3)] [] mm_SH M 0 0 (mm_PV K)
  refine mm_aload_n (pc := 0) (j := 0) dX1_tellLoaf_0 rfl rfl ?_
  refine mm_getR (pc := 1) (ci := 1) (N := 5) (r := 30) dX1_tellLoaf_1 fX1_21 sh_21 rfl (g_21_1 hG) ?_
  refine mm_getR (pc := 4) (ci := 5) (N := 4) (r := 31) dX1_tellLoaf_4 fX1_122 sh_30 rfl (g_30_0 hG) ?_
  refine mm_bipush (pc := 7) (x := 13) dX1_tellLoaf_7 rfl ?_
  refine mm_aload_n (pc := 9) (j := 1) dX1_tellLoaf_9 rfl rfl ?_
  refine mm_getI (pc := 10) (ci := 9) (N := 7) dX1_tellLoaf_10 fX1_46 (sh_St ha1) rfl ?_
  refine mm_iastore (pc := 13) (N := 24) dX1_tellLoaf_13 sh_31 (mm_vin (k := 13) rfl (by decide) (by decide)) ?_
  refine mm_iload_n (pc := 14) (j := 2) dX1_tellLoaf_14 rfl rfl ?_
  refine mm_if_lt (pc := 15) (tgt := 104) dX1_tellLoaf_15 (by decide) (fun hc => ?_) (fun hc => ?_)
  · have h := mm_ift hc h
    exact mm_vret (pc := 104) dX1_tellLoaf_104 rfl (Nat.le_refl 0) (Nat.le_refl 0) ⟨rfl, rfl, hG, h⟩
  · have h := mm_iff hc h
    refine mm_iload_n (pc := 18) (j := 2) dX1_tellLoaf_18 rfl rfl ?_
    refine mm_bipush (pc := 19) (x := 7) dX1_tellLoaf_19 rfl ?_
    refine mm_icmp_ge (pc := 21) (tgt := 104) dX1_tellLoaf_21 (by decide) (fun hc => ?_) (fun hc => ?_)
    · have h := mm_ift hc h
      exact mm_vret (pc := 104) dX1_tellLoaf_104 rfl (Nat.le_refl 0) (Nat.le_refl 0) ⟨rfl, rfl, hG, h⟩
    · have h := mm_iff hc h
      refine mm_iload_n (pc := 24) (j := 3) dX1_tellLoaf_24 rfl rfl ?_
      refine mm_if_lt (pc := 25) (tgt := 104) dX1_tellLoaf_25 (by decide) (fun hc => ?_) (fun hc => ?_)
      · have h := mm_ift hc h
        exact mm_vret (pc := 104) dX1_tellLoaf_104 rfl (Nat.le_refl 0) (Nat.le_refl 0) ⟨rfl, rfl, hG, h⟩
      · have h := mm_iff hc h
        refine mm_iload_n (pc := 28) (j := 3) dX1_tellLoaf_28 rfl rfl ?_
        refine mm_bipush (pc := 29) (x := 7) dX1_tellLoaf_29 rfl ?_
        refine mm_icmp_ge (pc := 31) (tgt := 104) dX1_tellLoaf_31 (by decide) (fun hc => ?_) (fun hc => ?_)
        · have h := mm_ift hc h
          exact mm_vret (pc := 104) dX1_tellLoaf_104 rfl (Nat.le_refl 0) (Nat.le_refl 0) ⟨rfl, rfl, hG, h⟩
        · have h := mm_iff hc h
          refine mm_aload_n (pc := 34) (j := 0) dX1_tellLoaf_34 rfl rfl ?_
          refine mm_getR (pc := 35) (ci := 1) (N := 5) (r := 30) dX1_tellLoaf_35 fX1_21 sh_21 rfl (g_21_1 hG) ?_
          refine mm_getR (pc := 38) (ci := 5) (N := 4) (r := 31) dX1_tellLoaf_38 fX1_122 sh_30 rfl (g_30_0 hG) ?_
          refine mm_iconst (pc := 41) (x := 2) dX1_tellLoaf_41 rfl ?_
          refine mm_aload_n (pc := 42) (j := 1) dX1_tellLoaf_42 rfl rfl ?_
          refine mm_getR (pc := 43) (ci := 9) (N := 7) (r := a1 + 1) dX1_tellLoaf_43 fX1_79 (sh_St ha1) rfl (g_St_3 hG ha1) ?_
          refine mm_iload_n (pc := 46) (j := 2) dX1_tellLoaf_46 rfl rfl ?_
          obtain ⟨hi47, h⟩ := h
          refine mm_iaload (pc := 47) (N := 7) dX1_tellLoaf_47 (sh_St_1 ha1) hi47 ?_
          refine mm_iastore (pc := 48) (N := 24) dX1_tellLoaf_48 sh_31 (mm_vin (k := 2) rfl (by decide) (by decide)) ?_
          refine mm_aload_n (pc := 49) (j := 0) dX1_tellLoaf_49 rfl rfl ?_
          refine mm_getR (pc := 50) (ci := 1) (N := 5) (r := 30) dX1_tellLoaf_50 fX1_21 sh_21 rfl (g_21_1 hG) ?_
          refine mm_getR (pc := 53) (ci := 5) (N := 4) (r := 31) dX1_tellLoaf_53 fX1_122 sh_30 rfl (g_30_0 hG) ?_
          refine mm_iconst (pc := 56) (x := 3) dX1_tellLoaf_56 rfl ?_
          refine mm_aload_n (pc := 57) (j := 0) dX1_tellLoaf_57 rfl rfl ?_
          obtain ⟨q58, he58, hq58, h⟩ := h
          refine mm_getR (pc := 58) (ci := 1) (N := 5) (r := q58) dX1_tellLoaf_58 fX1_12 sh_21 rfl he58 ?_
          refine mm_getR (pc := 61) (ci := 7) (N := 11) (r := q58 + 3) dX1_tellLoaf_61 fX1_130 (sh_Rl hq58) rfl (g_Rl_6 hG hq58) ?_
          refine mm_iload_n (pc := 64) (j := 2) dX1_tellLoaf_64 rfl rfl ?_
          obtain ⟨hi65, h⟩ := h
          refine mm_iaload (pc := 65) (N := 7) dX1_tellLoaf_65 (sh_Rl_3 hq58) hi65 ?_
          refine mm_iastore (pc := 66) (N := 24) dX1_tellLoaf_66 sh_31 (mm_vin (k := 3) rfl (by decide) (by decide)) ?_
          refine mm_aload_n (pc := 67) (j := 0) dX1_tellLoaf_67 rfl rfl ?_
          refine mm_getR (pc := 68) (ci := 1) (N := 5) (r := 30) dX1_tellLoaf_68 fX1_21 sh_21 rfl (g_21_1 hG) ?_
          refine mm_getR (pc := 71) (ci := 5) (N := 4) (r := 31) dX1_tellLoaf_71 fX1_122 sh_30 rfl (g_30_0 hG) ?_
          refine mm_bipush (pc := 74) (x := 14) dX1_tellLoaf_74 rfl ?_
          refine mm_aload_n (pc := 76) (j := 1) dX1_tellLoaf_76 rfl rfl ?_
          refine mm_getR (pc := 77) (ci := 9) (N := 7) (r := a1 + 2) dX1_tellLoaf_77 fX1_63 (sh_St ha1) rfl (g_St_4 hG ha1) ?_
          refine mm_iload_n (pc := 80) (j := 3) dX1_tellLoaf_80 rfl rfl ?_
          obtain ⟨hi81, h⟩ := h
          refine mm_iaload (pc := 81) (N := 7) dX1_tellLoaf_81 (sh_St_2 ha1) hi81 ?_
          refine mm_iastore (pc := 82) (N := 24) dX1_tellLoaf_82 sh_31 (mm_vin (k := 14) rfl (by decide) (by decide)) ?_
          refine mm_aload_n (pc := 83) (j := 0) dX1_tellLoaf_83 rfl rfl ?_
          refine mm_getR (pc := 84) (ci := 1) (N := 5) (r := 30) dX1_tellLoaf_84 fX1_21 sh_21 rfl (g_21_1 hG) ?_
          refine mm_getR (pc := 87) (ci := 5) (N := 4) (r := 31) dX1_tellLoaf_87 fX1_122 sh_30 rfl (g_30_0 hG) ?_
          refine mm_bipush (pc := 90) (x := 6) dX1_tellLoaf_90 rfl ?_
          refine mm_aload_n (pc := 92) (j := 1) dX1_tellLoaf_92 rfl rfl ?_
          refine mm_getR (pc := 93) (ci := 9) (N := 7) (r := a1 + 3) dX1_tellLoaf_93 fX1_106 (sh_St ha1) rfl (g_St_5 hG ha1) ?_
          refine mm_bipush (pc := 96) (x := 8) dX1_tellLoaf_96 rfl ?_
          refine mm_iload_n (pc := 98) (j := 3) dX1_tellLoaf_98 rfl rfl ?_
          refine mm_imul (pc := 99) dX1_tellLoaf_99 ?_
          refine mm_iload_n (pc := 100) (j := 2) dX1_tellLoaf_100 rfl rfl ?_
          refine mm_iadd (pc := 101) dX1_tellLoaf_101 ?_
          obtain ⟨hi102, h⟩ := h
          refine mm_iaload (pc := 102) (N := 64) dX1_tellLoaf_102 (sh_St_3 ha1) hi102 ?_
          refine mm_iastore (pc := 103) (N := 24) dX1_tellLoaf_103 sh_31 (mm_vin (k := 6) rfl (by decide) (by decide)) ?_
          exact mm_vret (pc := 104) dX1_tellLoaf_104 rfl (Nat.le_refl 0) (Nat.le_refl 0) ⟨rfl, rfl, hG, h⟩
set_option maxRecDepth 100000 in
set_option maxHeartbeats 4000000 in
theorem rX1_tellHouse {d : Nat} {a1 : Nat} {x2 : Int32} {M : mm_M} {K : mm_M → Prop} (ha1 : a1 ∈ mm_Sts) (hG : mm_G M.2.2) (h : if x2 < 0 then (K (mm_uI M 31 (13 : Int32).toNatClampNeg (M.1 a1 0))) else (if 7 ≤ x2 then (K (mm_uI M 31 (13 : Int32).toNatClampNeg (M.1 a1 0))) else (vp_in x2 7 ∧ ∃ q48 : Nat, (mm_uI (mm_uI M 31 (13 : Int32).toNatClampNeg (M.1 a1 0)) 31 (2 : Int32).toNatClampNeg ((mm_uI M 31 (13 : Int32).toNatClampNeg (M.1 a1 0)).1 (a1 + 1) x2.toNatClampNeg)).2.2 21 0 = some q48 ∧ q48 ∈ mm_Rls ∧ vp_in x2 7 ∧ vp_in x2 7 ∧ K (mm_uI (mm_uI (mm_uI (mm_uI M 31 (13 : Int32).toNatClampNeg (M.1 a1 0)) 31 (2 : Int32).toNatClampNeg ((mm_uI M 31 (13 : Int32).toNatClampNeg (M.1 a1 0)).1 (a1 + 1) x2.toNatClampNeg)) 31 (3 : Int32).toNatClampNeg ((mm_uI (mm_uI M 31 (13 : Int32).toNatClampNeg (M.1 a1 0)) 31 (2 : Int32).toNatClampNeg ((mm_uI M 31 (13 : Int32).toNatClampNeg (M.1 a1 0)).1 (a1 + 1) x2.toNatClampNeg)).1 (q48 + 3) x2.toNatClampNeg)) 31 (14 : Int32).toNatClampNeg ((mm_uI (mm_uI (mm_uI M 31 (13 : Int32).toNatClampNeg (M.1 a1 0)) 31 (2 : Int32).toNatClampNeg ((mm_uI M 31 (13 : Int32).toNatClampNeg (M.1 a1 0)).1 (a1 + 1) x2.toNatClampNeg)) 31 (3 : Int32).toNatClampNeg ((mm_uI (mm_uI M 31 (13 : Int32).toNatClampNeg (M.1 a1 0)) 31 (2 : Int32).toNatClampNeg ((mm_uI M 31 (13 : Int32).toNatClampNeg (M.1 a1 0)).1 (a1 + 1) x2.toNatClampNeg)).1 (q48 + 3) x2.toNatClampNeg)).1 (a1 + 2) x2.toNatClampNeg))))) : mm_CV mX1_tellHouse d [.ref 21, .ref a1, .int x2] M K := by
  show mm_W mX1_tellHouse d 0 0 0 [(0, .ref 21), (1, .ref a1), (2, .int x2)] [] mm_SH M 0 0 (mm_PV K)
  refine mm_aload_n (pc := 0) (j := 0) dX1_tellHouse_0 rfl rfl ?_
  refine mm_getR (pc := 1) (ci := 1) (N := 5) (r := 30) dX1_tellHouse_1 fX1_21 sh_21 rfl (g_21_1 hG) ?_
  refine mm_getR (pc := 4) (ci := 5) (N := 4) (r := 31) dX1_tellHouse_4 fX1_122 sh_30 rfl (g_30_0 hG) ?_
  refine mm_bipush (pc := 7) (x := 13) dX1_tellHouse_7 rfl ?_
  refine mm_aload_n (pc := 9) (j := 1) dX1_tellHouse_9 rfl rfl ?_
  refine mm_getI (pc := 10) (ci := 9) (N := 7) dX1_tellHouse_10 fX1_46 (sh_St ha1) rfl ?_
  refine mm_iastore (pc := 13) (N := 24) dX1_tellHouse_13 sh_31 (mm_vin (k := 13) rfl (by decide) (by decide)) ?_
  refine mm_iload_n (pc := 14) (j := 2) dX1_tellHouse_14 rfl rfl ?_
  refine mm_if_lt (pc := 15) (tgt := 73) dX1_tellHouse_15 (by decide) (fun hc => ?_) (fun hc => ?_)
  · have h := mm_ift hc h
    exact mm_vret (pc := 73) dX1_tellHouse_73 rfl (Nat.le_refl 0) (Nat.le_refl 0) ⟨rfl, rfl, hG, h⟩
  · have h := mm_iff hc h
    refine mm_iload_n (pc := 18) (j := 2) dX1_tellHouse_18 rfl rfl ?_
    refine mm_bipush (pc := 19) (x := 7) dX1_tellHouse_19 rfl ?_
    refine mm_icmp_ge (pc := 21) (tgt := 73) dX1_tellHouse_21 (by decide) (fun hc => ?_) (fun hc => ?_)
    · have h := mm_ift hc h
      exact mm_vret (pc := 73) dX1_tellHouse_73 rfl (Nat.le_refl 0) (Nat.le_refl 0) ⟨rfl, rfl, hG, h⟩
    · have h := mm_iff hc h
      refine mm_aload_n (pc := 24) (j := 0) dX1_tellHouse_24 rfl rfl ?_
      refine mm_getR (pc := 25) (ci := 1) (N := 5) (r := 30) dX1_tellHouse_25 fX1_21 sh_21 rfl (g_21_1 hG) ?_
      refine mm_getR (pc := 28) (ci := 5) (N := 4) (r := 31) dX1_tellHouse_28 fX1_122 sh_30 rfl (g_30_0 hG) ?_
      refine mm_iconst (pc := 31) (x := 2) dX1_tellHouse_31 rfl ?_
      refine mm_aload_n (pc := 32) (j := 1) dX1_tellHouse_32 rfl rfl ?_
      refine mm_getR (pc := 33) (ci := 9) (N := 7) (r := a1 + 1) dX1_tellHouse_33 fX1_79 (sh_St ha1) rfl (g_St_3 hG ha1) ?_
      refine mm_iload_n (pc := 36) (j := 2) dX1_tellHouse_36 rfl rfl ?_
      obtain ⟨hi37, h⟩ := h
      refine mm_iaload (pc := 37) (N := 7) dX1_tellHouse_37 (sh_St_1 ha1) hi37 ?_
      refine mm_iastore (pc := 38) (N := 24) dX1_tellHouse_38 sh_31 (mm_vin (k := 2) rfl (by decide) (by decide)) ?_
      refine mm_aload_n (pc := 39) (j := 0) dX1_tellHouse_39 rfl rfl ?_
      refine mm_getR (pc := 40) (ci := 1) (N := 5) (r := 30) dX1_tellHouse_40 fX1_21 sh_21 rfl (g_21_1 hG) ?_
      refine mm_getR (pc := 43) (ci := 5) (N := 4) (r := 31) dX1_tellHouse_43 fX1_122 sh_30 rfl (g_30_0 hG) ?_
      refine mm_iconst (pc := 46) (x := 3) dX1_tellHouse_46 rfl ?_
      refine mm_aload_n (pc := 47) (j := 0) dX1_tellHouse_47 rfl rfl ?_
      obtain ⟨q48, he48, hq48, h⟩ := h
      refine mm_getR (pc := 48) (ci := 1) (N := 5) (r := q48) dX1_tellHouse_48 fX1_12 sh_21 rfl he48 ?_
      refine mm_getR (pc := 51) (ci := 7) (N := 11) (r := q48 + 3) dX1_tellHouse_51 fX1_130 (sh_Rl hq48) rfl (g_Rl_6 hG hq48) ?_
      refine mm_iload_n (pc := 54) (j := 2) dX1_tellHouse_54 rfl rfl ?_
      obtain ⟨hi55, h⟩ := h
      refine mm_iaload (pc := 55) (N := 7) dX1_tellHouse_55 (sh_Rl_3 hq48) hi55 ?_
      refine mm_iastore (pc := 56) (N := 24) dX1_tellHouse_56 sh_31 (mm_vin (k := 3) rfl (by decide) (by decide)) ?_
      refine mm_aload_n (pc := 57) (j := 0) dX1_tellHouse_57 rfl rfl ?_
      refine mm_getR (pc := 58) (ci := 1) (N := 5) (r := 30) dX1_tellHouse_58 fX1_21 sh_21 rfl (g_21_1 hG) ?_
      refine mm_getR (pc := 61) (ci := 5) (N := 4) (r := 31) dX1_tellHouse_61 fX1_122 sh_30 rfl (g_30_0 hG) ?_
      refine mm_bipush (pc := 64) (x := 14) dX1_tellHouse_64 rfl ?_
      refine mm_aload_n (pc := 66) (j := 1) dX1_tellHouse_66 rfl rfl ?_
      refine mm_getR (pc := 67) (ci := 9) (N := 7) (r := a1 + 2) dX1_tellHouse_67 fX1_63 (sh_St ha1) rfl (g_St_4 hG ha1) ?_
      refine mm_iload_n (pc := 70) (j := 2) dX1_tellHouse_70 rfl rfl ?_
      obtain ⟨hi71, h⟩ := h
      refine mm_iaload (pc := 71) (N := 7) dX1_tellHouse_71 (sh_St_2 ha1) hi71 ?_
      refine mm_iastore (pc := 72) (N := 24) dX1_tellHouse_72 sh_31 (mm_vin (k := 14) rfl (by decide) (by decide)) ?_
      exact mm_vret (pc := 73) dX1_tellHouse_73 rfl (Nat.le_refl 0) (Nat.le_refl 0) ⟨rfl, rfl, hG, h⟩
set_option maxRecDepth 100000 in
set_option maxHeartbeats 4000000 in
theorem rX1_bounded {d : Nat} {x0 : Int32} {M : mm_M} {K : Int32 → mm_M → Prop} (hG : mm_G M.2.2) (h : if 0 ≤ x0 then (if x0 ≤ 99 then (K x0 M) else (K 99 M)) else (K 0 M)) : mm_CI mX1_bounded d [.int x0] M K := by
  show mm_W mX1_bounded d 0 0 0 [(0, .int x0)] [] mm_SH M 0 0 (mm_PI K)
  refine mm_iload_n (pc := 0) (j := 0) dX1_bounded_0 rfl rfl ?_
  refine mm_if_ge (pc := 1) (tgt := 8) dX1_bounded_1 (by decide) (fun hc => ?_) (fun hc => ?_)
  · have h := mm_ift hc h
    refine mm_iload_n (pc := 8) (j := 0) dX1_bounded_8 rfl rfl ?_
    refine mm_bipush (pc := 9) (x := 99) dX1_bounded_9 rfl ?_
    refine mm_icmp_le (pc := 11) (tgt := 19) dX1_bounded_11 (by decide) (fun hc => ?_) (fun hc => ?_)
    · have h := mm_ift hc h
      refine mm_iload_n (pc := 19) (j := 0) dX1_bounded_19 rfl rfl ?_
      exact mm_iret (pc := 20) dX1_bounded_20 rfl (Nat.le_refl 0) (Nat.le_refl 0) ⟨_, rfl, rfl, hG, h⟩
    · have h := mm_iff hc h
      refine mm_bipush (pc := 14) (x := 99) dX1_bounded_14 rfl ?_
      refine mm_goto (pc := 16) (tgt := 20) dX1_bounded_16 (by decide) ?_
      exact mm_iret (pc := 20) dX1_bounded_20 rfl (Nat.le_refl 0) (Nat.le_refl 0) ⟨_, rfl, rfl, hG, h⟩
  · have h := mm_iff hc h
    refine mm_iconst (pc := 4) (x := 0) dX1_bounded_4 rfl ?_
    refine mm_goto (pc := 5) (tgt := 20) dX1_bounded_5 (by decide) ?_
    exact mm_iret (pc := 20) dX1_bounded_20 rfl (Nat.le_refl 0) (Nat.le_refl 0) ⟨_, rfl, rfl, hG, h⟩
