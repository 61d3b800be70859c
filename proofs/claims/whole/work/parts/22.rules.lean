set_option maxRecDepth 100000 in
set_option maxHeartbeats 4000000 in
theorem rX1_run {d : Nat} {a1 : Nat} {x2 : Int32} {x3 : Int32} {M : mm_M} {K : mm_M → Prop} (ha1 : a1 ∈ mm_Sts) (hG : mm_G M.2.2) (h : mm_CV mX1_serve d [.ref 21, .ref a1, .int x2, .int x3] M (fun m4 => mm_CV mX1_starve d [.ref 21, .ref a1] m4 (fun m9 => mm_CV mX1_cool d [.ref 21, .ref a1] m9 (fun m14 => mm_CV mX1_grow d [.ref 21, .ref a1] m14 (fun m19 => if 999 ≤ (m19.1 a1 0) then (K m19) else (K (mm_uI m19 a1 0 ((m19.1 a1 0) + 1)))))))) : mm_CV mX1_run (d + 1) [.ref 21, .ref a1, .int x2, .int x3] M K := by
  show mm_W mX1_run (d + 1) 0 0 0 [(0, .ref 21), (1, .ref a1), (2, .int x2), (3, .int x3)] [] mm_SH M 0 0 (mm_PV K)
  refine mm_aload_n (j := 0) dX1_run_0 rfl rfl ?_
  refine mm_aload_n (j := 1) dX1_run_1 rfl rfl ?_
  refine mm_iload_n (j := 2) dX1_run_2 rfl rfl ?_
  refine mm_iload_n (j := 3) dX1_run_3 rfl rfl ?_
  refine mm_kVV [.ref a1, .int x2, .int x3] dX1_run_4 kX1_32 rfl sh_21 (by decide) (by decide) h (fun m4 hG h => ?_)
  refine mm_aload_n (j := 0) dX1_run_7 rfl rfl ?_
  refine mm_aload_n (j := 1) dX1_run_8 rfl rfl ?_
  refine mm_kVV [.ref a1] dX1_run_9 kX1_36 rfl sh_21 (by decide) (by decide) h (fun m9 hG h => ?_)
  refine mm_aload_n (j := 0) dX1_run_12 rfl rfl ?_
  refine mm_aload_n (j := 1) dX1_run_13 rfl rfl ?_
  refine mm_kVV [.ref a1] dX1_run_14 kX1_40 rfl sh_21 (by decide) (by decide) h (fun m14 hG h => ?_)
  refine mm_aload_n (j := 0) dX1_run_17 rfl rfl ?_
  refine mm_aload_n (j := 1) dX1_run_18 rfl rfl ?_
  refine mm_kVV [.ref a1] dX1_run_19 kX1_43 rfl sh_21 (by decide) (by decide) h (fun m19 hG h => ?_)
  refine mm_aload_n (j := 1) dX1_run_22 rfl rfl ?_
  refine mm_getI (ci := 9) (N := 7) dX1_run_23 fX1_46 (sh_St ha1) rfl ?_
  refine mm_sipush (x := 999) dX1_run_26 rfl ?_
  refine mm_icmp_ge (tgt := 42) dX1_run_29 (by decide) (fun hc => ?_) (fun hc => ?_)
  · rw [if_pos hc] at h
    exact mm_vret dX1_run_42 rfl (Nat.le_refl 0) (Nat.le_refl 0) ⟨rfl, rfl, hG, h⟩
  · rw [if_neg hc] at h
    refine mm_aload_n (j := 1) dX1_run_32 rfl rfl ?_
    refine mm_dup dX1_run_33 rfl ?_
    refine mm_getI (ci := 9) (N := 7) dX1_run_34 fX1_46 (sh_St ha1) rfl ?_
    refine mm_iconst (x := 1) dX1_run_37 rfl ?_
    refine mm_iadd dX1_run_38 ?_
    refine mm_putI (ci := 9) (N := 7) dX1_run_39 fX1_46 (sh_St ha1) (by decide +kernel) rfl rfl rfl ?_
    exact mm_vret dX1_run_42 rfl (Nat.le_refl 0) (Nat.le_refl 0) ⟨rfl, rfl, hG, h⟩
def jX1_serve_11 (d : Nat) (a1 : Nat) (x2 : Int32) (x3 : Int32) (M : mm_M) (K : mm_M → Prop) (y3 : Int32) (y4 : Int32) (y5 : Int32) : Prop := mm_W mX1_serve (d + 1) 0 0 11 [(0, .ref 21), (1, .ref a1), (3, .int y3), (4, .int y4), (5, .int y5)] [] mm_SH M 0 0 (mm_PV K)
def jX1_serve_71 (d : Nat) (a1 : Nat) (x2 : Int32) (x3 : Int32) (M : mm_M) (K : mm_M → Prop) (y3 : Int32) (y4 : Int32) (y5 : Int32) : Prop := mm_W mX1_serve (d + 1) 0 0 71 [(0, .ref 21), (1, .ref a1), (3, .int y3), (4, .int y4), (5, .int y5)] [] mm_SH M 0 0 (mm_PV K)
def jX1_serve_130 (d : Nat) (a1 : Nat) (x2 : Int32) (x3 : Int32) (M : mm_M) (K : mm_M → Prop) (y3 : Int32) (y4 : Int32) (y5 : Int32) (y6 : Int32) : Prop := mm_W mX1_serve (d + 1) 0 0 130 [(0, .ref 21), (1, .ref a1), (3, .int y3), (4, .int y4), (5, .int y5), (6, .int y6)] [] mm_SH M 0 0 (mm_PV K)
set_option maxRecDepth 100000 in
set_option maxHeartbeats 4000000 in
theorem rX1_serve {d : Nat} {a1 : Nat} {x2 : Int32} {x3 : Int32} {M : mm_M} {K : mm_M → Prop} (ha1 : a1 ∈ mm_Sts) (hG : mm_G M.2.2) (h : jX1_serve_11 d a1 x2 x3 (mm_uI M 21 4 0) K x3 x2 0) : mm_CV mX1_serve (d + 1) [.ref 21, .ref a1, .int x2, .int x3] M K := by
  show mm_W mX1_serve (d + 1) 0 0 0 [(0, .ref 21), (1, .ref a1), (2, .int x2), (3, .int x3)] [] mm_SH M 0 0 (mm_PV K)
  refine mm_iload_n (j := 2) dX1_serve_0 rfl rfl ?_
  refine mm_istore (lv' := [(4, .int x2), (0, .ref 21), (1, .ref a1), (2, .int x2), (3, .int x3)]) dX1_serve_1 (by decide) rfl ?_
  refine mm_aload_n (j := 1) dX1_serve_3 rfl rfl ?_
  refine mm_iconst (x := 0) dX1_serve_4 rfl ?_
  refine mm_putI (ci := 1) (N := 5) dX1_serve_5 fX1_52 sh_21 (by decide +kernel) rfl rfl rfl ?_
  refine mm_iconst (x := 0) dX1_serve_8 rfl ?_
  refine mm_istore (lv' := [(5, .int 0), (4, .int x2), (0, .ref 21), (1, .ref a1), (2, .int x2), (3, .int x3)]) dX1_serve_9 (by decide) rfl ?_
  exact mm_sub [2, 3, 5, 1, 0] rfl h
set_option maxRecDepth 100000 in
set_option maxHeartbeats 4000000 in
theorem lX1_serve_11 {d : Nat} {a1 : Nat} {x2 : Int32} {x3 : Int32} {M : mm_M} {K : mm_M → Prop} {y3 : Int32} {y4 : Int32} {y5 : Int32} (ha1 : a1 ∈ mm_Sts) (hG : mm_G M.2.2) (h : if 7 ≤ y5 then (K M) else (vp_in y5 7 ∧ vp_in y5 7 ∧ mm_CI mX9_isThere d [.ref a1, .int y5] (mm_uI (mm_uI M 35 (y5).toNatClampNeg (-1)) 36 (y5).toNatClampNeg 255) (fun z39 m39 => if z39 = 0 then (jX1_serve_11 d a1 x2 x3 m39 K y3 y4 (y5 + 1)) else (mm_CI mX1_pickBaker d [.ref 21, .ref a1, .int y5, .int y4] m39 (fun z54 m54 => if z54 < 0 then (jX1_serve_71 d a1 x2 x3 m54 K y3 y4 y5) else (if z54 < 7 then (if y3 = 0 then (jX1_serve_130 d a1 x2 x3 m54 K y3 y4 y5 z54) else (mm_CI mX1_tasteOfLoaf d [.ref 21, .ref a1, .int z54, .int y5] m54 (fun z111 m111 => vp_in y5 7 ∧ vp_in y5 7 ∧ mm_CV mX9_keep d [.ref a1, .int z54, .int y5, .int ((mm_uI m111 36 (y5).toNatClampNeg z111).1 36 (y5).toNatClampNeg)] (mm_uI m111 36 (y5).toNatClampNeg z111) (fun m127 => jX1_serve_130 d a1 x2 x3 m127 K y3 y4 y5 z54)))) else (jX1_serve_71 d a1 x2 x3 m54 K y3 y4 y5))))))) : jX1_serve_11 d a1 x2 x3 M K y3 y4 y5 := by
  unfold jX1_serve_11
  refine mm_iload (j := 4) dX1_serve_11 rfl ?_
  refine mm_bipush (x := 7) dX1_serve_13 rfl ?_
  refine mm_icmp_ge (tgt := 189) dX1_serve_15 (by decide) (fun hc => ?_) (fun hc => ?_)
  · rw [if_pos hc] at h
    exact mm_vret dX1_serve_189 rfl (Nat.le_refl 0) (Nat.le_refl 0) ⟨rfl, rfl, hG, h⟩
  · rw [if_neg hc] at h
    refine mm_aload_n (j := 0) dX1_serve_18 rfl rfl ?_
    refine mm_getR (ci := 1) (N := 5) (r := 35) dX1_serve_19 fX1_25 sh_21 rfl (g_21_2 hG) ?_
    refine mm_iload (j := 4) dX1_serve_22 rfl ?_
    refine mm_iconst (x := (-1)) dX1_serve_24 rfl ?_
    obtain ⟨hi25, h⟩ := h
    refine mm_iastore (N := 7) dX1_serve_25 sh_35 hi25 ?_
    refine mm_aload_n (j := 0) dX1_serve_26 rfl rfl ?_
    refine mm_getR (ci := 1) (N := 5) (r := 36) dX1_serve_27 fX1_29 sh_21 rfl (g_21_3 hG) ?_
    refine mm_iload (j := 4) dX1_serve_30 rfl ?_
    refine mm_sipush (x := 255) dX1_serve_32 rfl ?_
    obtain ⟨hi35, h⟩ := h
    refine mm_iastore (N := 7) dX1_serve_35 sh_36 hi35 ?_
    refine mm_aload_n (j := 1) dX1_serve_36 rfl rfl ?_
    refine mm_iload (j := 4) dX1_serve_37 rfl ?_
    refine mm_kVI [.int y5] dX1_serve_39 kX1_55 rfl (sh_St ha1) (by decide) (by decide) h (fun z39 m39 hG h => ?_)
    refine mm_if_ne (tgt := 48) dX1_serve_42 (by decide) (fun hc => ?_) (fun hc => ?_)
    · rw [if_neg hc] at h
      refine mm_aload_n (j := 0) dX1_serve_48 rfl rfl ?_
      refine mm_aload_n (j := 1) dX1_serve_49 rfl rfl ?_
      refine mm_iload (j := 4) dX1_serve_50 rfl ?_
      refine mm_iload (j := 3) dX1_serve_52 rfl ?_
      refine mm_kVI [.ref a1, .int y5, .int y4] dX1_serve_54 kX1_59 rfl sh_21 (by decide) (by decide) h (fun z54 m54 hG h => ?_)
      refine mm_istore (lv' := [(6, .int z54), (0, .ref 21), (1, .ref a1), (3, .int y3), (4, .int y4), (5, .int y5)]) dX1_serve_57 (by decide) rfl ?_
      refine mm_iload (j := 0) dX1_serve_59 rfl ?_
      refine mm_if_lt (tgt := 71) dX1_serve_61 (by decide) (fun hc => ?_) (fun hc => ?_)
      · rw [if_pos hc] at h
        exact mm_sub [1, 2, 3, 4, 5] rfl h
      · rw [if_neg hc] at h
        refine mm_iload (j := 0) dX1_serve_64 rfl ?_
        refine mm_bipush (x := 7) dX1_serve_66 rfl ?_
        refine mm_icmp_lt (tgt := 95) dX1_serve_68 (by decide) (fun hc => ?_) (fun hc => ?_)
        · rw [if_pos hc] at h
          refine mm_iload_n (j := 3) dX1_serve_95 rfl rfl ?_
          refine mm_if_eq (tgt := 130) dX1_serve_96 (by decide) (fun hc => ?_) (fun hc => ?_)
          · rw [if_pos hc] at h
            exact mm_sub [1, 2, 3, 4, 5, 0] rfl h
          · rw [if_neg hc] at h
            refine mm_aload_n (j := 1) dX1_serve_99 rfl rfl ?_
            refine mm_getR (ci := 1) (N := 5) (r := 36) dX1_serve_100 fX1_29 sh_21 rfl (g_21_3 hG) ?_
            refine mm_iload (j := 5) dX1_serve_103 rfl ?_
            refine mm_aload_n (j := 1) dX1_serve_105 rfl rfl ?_
            refine mm_aload_n (j := 2) dX1_serve_106 rfl rfl ?_
            refine mm_iload (j := 0) dX1_serve_107 rfl ?_
            refine mm_iload (j := 5) dX1_serve_109 rfl ?_
            refine mm_kVI [.ref a1, .int z54, .int y5] dX1_serve_111 kX1_72 rfl sh_21 (by decide) (by decide) h (fun z111 m111 hG h => ?_)
            obtain ⟨hi114, h⟩ := h
            refine mm_iastore (N := 7) dX1_serve_114 sh_36 hi114 ?_
            refine mm_aload_n (j := 2) dX1_serve_115 rfl rfl ?_
            refine mm_iload (j := 0) dX1_serve_116 rfl ?_
            refine mm_iload (j := 5) dX1_serve_118 rfl ?_
            refine mm_aload_n (j := 1) dX1_serve_120 rfl rfl ?_
            refine mm_getR (ci := 1) (N := 5) (r := 36) dX1_serve_121 fX1_29 sh_21 rfl (g_21_3 hG) ?_
            refine mm_iload (j := 5) dX1_serve_124 rfl ?_
            obtain ⟨hi126, h⟩ := h
            refine mm_iaload (N := 7) dX1_serve_126 sh_36 hi126 ?_
            refine mm_kVV [.int z54, .int y5, .int ((mm_uI m111 36 (y5).toNatClampNeg z111).1 36 (y5).toNatClampNeg)] dX1_serve_127 kX1_75 rfl (sh_St ha1) (by decide) (by decide) h (fun m127 hG h => ?_)
            exact mm_sub [1, 2, 3, 4, 5, 0] rfl h
        · rw [if_neg hc] at h
          exact mm_sub [1, 2, 3, 4, 5] rfl h
    · rw [if_pos hc] at h
      refine mm_goto (tgt := 183) dX1_serve_45 (by decide) ?_
      refine mm_iinc (j := 4) (v := y5 + 1) (lv' := [(5, .int (y5 + 1)), (0, .ref 21), (1, .ref a1), (3, .int y3), (4, .int y4)]) dX1_serve_183 rfl rfl (by decide) rfl ?_
      refine mm_goto (tgt := 11) dX1_serve_186 (by decide) ?_
      exact mm_sub [1, 2, 3, 4, 0] rfl h
set_option maxRecDepth 100000 in
set_option maxHeartbeats 4000000 in
theorem lX1_serve_71 {d : Nat} {a1 : Nat} {x2 : Int32} {x3 : Int32} {M : mm_M} {K : mm_M → Prop} {y3 : Int32} {y4 : Int32} {y5 : Int32} (ha1 : a1 ∈ mm_Sts) (hG : mm_G M.2.2) (h : vp_in y5 7 ∧ vp_in y5 7 ∧ jX1_serve_11 d a1 x2 x3 (mm_uI M (a1 + 2) (y5).toNatClampNeg (if ((M.1 (a1 + 2) (y5).toNatClampNeg) + 1) < 9 then ((M.1 (a1 + 2) (y5).toNatClampNeg) + 1) else 9)) K y3 y4 (y5 + 1)) : jX1_serve_71 d a1 x2 x3 M K y3 y4 y5 := by
  unfold jX1_serve_71
  refine mm_aload_n (j := 1) dX1_serve_71 rfl rfl ?_
  refine mm_getR (ci := 9) (N := 7) (r := a1 + 2) dX1_serve_72 fX1_63 (sh_St ha1) rfl (g_St_4 hG ha1) ?_
  refine mm_iload (j := 4) dX1_serve_75 rfl ?_
  refine mm_bipush (x := 9) dX1_serve_77 rfl ?_
  refine mm_aload_n (j := 1) dX1_serve_79 rfl rfl ?_
  refine mm_getR (ci := 9) (N := 7) (r := a1 + 2) dX1_serve_80 fX1_63 (sh_St ha1) rfl (g_St_4 hG ha1) ?_
  refine mm_iload (j := 4) dX1_serve_83 rfl ?_
  obtain ⟨hi85, h⟩ := h
  refine mm_iaload (N := 7) dX1_serve_85 (sh_St_2 ha1) hi85 ?_
  refine mm_iconst (x := 1) dX1_serve_86 rfl ?_
  refine mm_iadd dX1_serve_87 ?_
  refine mm_mmin dX1_serve_88 kX1_66 ma_min_s ma_ini ma_min_c (by decide) (Nat.le_refl 0) (Nat.le_refl 0) ?_
  obtain ⟨hi91, h⟩ := h
  refine mm_iastore (N := 7) dX1_serve_91 (sh_St_2 ha1) hi91 ?_
  refine mm_goto (tgt := 183) dX1_serve_92 (by decide) ?_
  refine mm_iinc (j := 4) (v := y5 + 1) (lv' := [(5, .int (y5 + 1)), (0, .ref 21), (1, .ref a1), (3, .int y3), (4, .int y4)]) dX1_serve_183 rfl rfl (by decide) rfl ?_
  refine mm_goto (tgt := 11) dX1_serve_186 (by decide) ?_
  exact mm_sub [1, 2, 3, 4, 0] rfl h
set_option maxRecDepth 100000 in
set_option maxHeartbeats 4000000 in
theorem lX1_serve_130 {d : Nat} {a1 : Nat} {x2 : Int32} {x3 : Int32} {M : mm_M} {K : mm_M → Prop} {y3 : Int32} {y4 : Int32} {y5 : Int32} {y6 : Int32} (ha1 : a1 ∈ mm_Sts) (hG : mm_G M.2.2) (h : vp_in y5 7 ∧ vp_in y6 7 ∧ ∃ q167 : Nat, (mm_uI (mm_uI M 35 (y5).toNatClampNeg y6) 21 4 (((mm_uI M 35 (y5).toNatClampNeg y6).1 21 4) + 1)).2.2 21 0 = some q167 ∧ q167 ∈ mm_Rls ∧ vp_in y6 7 ∧ vp_in y5 7 ∧ jX1_serve_11 d a1 x2 x3 (mm_uI (mm_uI (mm_uI (mm_uI M 35 (y5).toNatClampNeg y6) 21 4 (((mm_uI M 35 (y5).toNatClampNeg y6).1 21 4) + 1)) (a1 + 1) (y6).toNatClampNeg (((mm_uI (mm_uI M 35 (y5).toNatClampNeg y6) 21 4 (((mm_uI M 35 (y5).toNatClampNeg y6).1 21 4) + 1)).1 (a1 + 1) (y6).toNatClampNeg) - ((mm_uI (mm_uI M 35 (y5).toNatClampNeg y6) 21 4 (((mm_uI M 35 (y5).toNatClampNeg y6).1 21 4) + 1)).1 q167 1))) (a1 + 2) (y5).toNatClampNeg 0) K y3 (y4 ||| (1 <<< (y6 &&& 31))) (y5 + 1)) : jX1_serve_130 d a1 x2 x3 M K y3 y4 y5 y6 := by
  unfold jX1_serve_130
  refine mm_aload_n (j := 0) dX1_serve_130 rfl rfl ?_
  refine mm_getR (ci := 1) (N := 5) (r := 35) dX1_serve_131 fX1_25 sh_21 rfl (g_21_2 hG) ?_
  refine mm_iload (j := 4) dX1_serve_134 rfl ?_
  refine mm_iload (j := 5) dX1_serve_136 rfl ?_
  obtain ⟨hi138, h⟩ := h
  refine mm_iastore (N := 7) dX1_serve_138 sh_35 hi138 ?_
  refine mm_iload (j := 3) dX1_serve_139 rfl ?_
  refine mm_iconst (x := 1) dX1_serve_141 rfl ?_
  refine mm_iload (j := 5) dX1_serve_142 rfl ?_
  refine mm_ishl dX1_serve_144 ?_
  refine mm_ior dX1_serve_145 ?_
  refine mm_istore (lv' := [(4, .int (y4 ||| (1 <<< (y6 &&& 31)))), (0, .ref 21), (1, .ref a1), (3, .int y3), (5, .int y5), (6, .int y6)]) dX1_serve_146 (by decide) rfl ?_
  refine mm_aload_n (j := 1) dX1_serve_148 rfl rfl ?_
  refine mm_dup dX1_serve_149 rfl ?_
  refine mm_getI (ci := 1) (N := 5) dX1_serve_150 fX1_52 sh_21 rfl ?_
  refine mm_iconst (x := 1) dX1_serve_153 rfl ?_
  refine mm_iadd dX1_serve_154 ?_
  refine mm_putI (ci := 1) (N := 5) dX1_serve_155 fX1_52 sh_21 (by decide +kernel) rfl rfl rfl ?_
  refine mm_aload_n (j := 2) dX1_serve_158 rfl rfl ?_
  refine mm_getR (ci := 9) (N := 7) (r := a1 + 1) dX1_serve_159 fX1_79 (sh_St ha1) rfl (g_St_3 hG ha1) ?_
  refine mm_iload (j := 5) dX1_serve_162 rfl ?_
  refine mm_dup2 dX1_serve_164 rfl rfl ?_
  obtain ⟨hi165, h⟩ := h
  refine mm_iaload (N := 7) dX1_serve_165 (sh_St_1 ha1) hi165 ?_
  refine mm_aload_n (j := 1) dX1_serve_166 rfl rfl ?_
  obtain ⟨q167, he167, hq167, h⟩ := h
  refine mm_getR (ci := 1) (N := 5) (r := q167) dX1_serve_167 fX1_12 sh_21 rfl he167 ?_
  refine mm_getI (ci := 7) (N := 11) dX1_serve_170 fX1_82 (sh_Rl hq167) rfl ?_
  refine mm_isub dX1_serve_173 ?_
  obtain ⟨hi174, h⟩ := h
  refine mm_iastore (N := 7) dX1_serve_174 (sh_St_1 ha1) hi174 ?_
  refine mm_aload_n (j := 2) dX1_serve_175 rfl rfl ?_
  refine mm_getR (ci := 9) (N := 7) (r := a1 + 2) dX1_serve_176 fX1_63 (sh_St ha1) rfl (g_St_4 hG ha1) ?_
  refine mm_iload (j := 4) dX1_serve_179 rfl ?_
  refine mm_iconst (x := 0) dX1_serve_181 rfl ?_
  obtain ⟨hi182, h⟩ := h
  refine mm_iastore (N := 7) dX1_serve_182 (sh_St_2 ha1) hi182 ?_
  refine mm_iinc (j := 4) (v := y5 + 1) (lv' := [(5, .int (y5 + 1)), (4, .int (y4 ||| (1 <<< (y6 &&& 31)))), (0, .ref 21), (1, .ref a1), (3, .int y3), (6, .int y6)]) dX1_serve_183 rfl rfl (by decide) rfl ?_
  refine mm_goto (tgt := 11) dX1_serve_186 (by decide) ?_
  exact mm_sub [2, 3, 4, 1, 0] rfl h
set_option maxRecDepth 100000 in
set_option maxHeartbeats 4000000 in
theorem rX1_tasteOfLoaf {d : Nat} {a1 : Nat} {x2 : Int32} {x3 : Int32} {M : mm_M} {K : Int32 → mm_M → Prop} (ha1 : a1 ∈ mm_Sts) (hG : mm_G M.2.2) (h : mm_CV mX1_tellLoaf d [.ref 21, .ref a1, .int x2, .int x3] M (fun m4 => ∃ q12 : Nat, m4.2.2 21 0 = some q12 ∧ q12 ∈ mm_Rls ∧ ∃ q19 : Nat, m4.2.2 21 0 = some q19 ∧ q19 ∈ mm_Rls ∧ ∃ q28 : Nat, m4.2.2 21 0 = some q28 ∧ q28 ∈ mm_Rls ∧ mm_CI mX5_value d [.ref 30, .ref (q12 + 5), .int (m4.1 (q19 + 6) (1).toNatClampNeg), .int (m4.1 (q28 + 7) (1).toNatClampNeg)] m4 (fun z36 m36 => mm_CI mX1_bounded d [.int z36] m36 (fun z39 m39 => K z39 m39)))) : mm_CI mX1_tasteOfLoaf (d + 1) [.ref 21, .ref a1, .int x2, .int x3] M K := by
  show mm_W mX1_tasteOfLoaf (d + 1) 0 0 0 [(0, .ref 21), (1, .ref a1), (2, .int x2), (3, .int x3)] [] mm_SH M 0 0 (mm_PI K)
  refine mm_aload_n (j := 0) dX1_tasteOfLoaf_0 rfl rfl ?_
  refine mm_aload_n (j := 1) dX1_tasteOfLoaf_1 rfl rfl ?_
  refine mm_iload_n (j := 2) dX1_tasteOfLoaf_2 rfl rfl ?_
  refine mm_iload_n (j := 3) dX1_tasteOfLoaf_3 rfl rfl ?_
  refine mm_kVV [.ref a1, .int x2, .int x3] dX1_tasteOfLoaf_4 kX1_85 rfl sh_21 (by decide) (by decide) h (fun m4 hG h => ?_)
  refine mm_aload_n (j := 0) dX1_tasteOfLoaf_7 rfl rfl ?_
  refine mm_getR (ci := 1) (N := 5) (r := 30) dX1_tasteOfLoaf_8 fX1_21 sh_21 rfl (g_21_1 hG) ?_
  refine mm_aload_n (j := 0) dX1_tasteOfLoaf_11 rfl rfl ?_
  obtain ⟨q12, he12, hq12, h⟩ := h
  refine mm_getR (ci := 1) (N := 5) (r := q12) dX1_tasteOfLoaf_12 fX1_12 sh_21 rfl he12 ?_
  refine mm_getR (ci := 7) (N := 11) (r := q12 + 5) dX1_tasteOfLoaf_15 fX1_89 (sh_Rl hq12) rfl (g_Rl_8 hG hq12) ?_
  refine mm_aload_n (j := 0) dX1_tasteOfLoaf_18 rfl rfl ?_
  obtain ⟨q19, he19, hq19, h⟩ := h
  refine mm_getR (ci := 1) (N := 5) (r := q19) dX1_tasteOfLoaf_19 fX1_12 sh_21 rfl he19 ?_
  refine mm_getR (ci := 7) (N := 11) (r := q19 + 6) dX1_tasteOfLoaf_22 fX1_92 (sh_Rl hq19) rfl (g_Rl_9 hG hq19) ?_
  refine mm_iconst (x := 1) dX1_tasteOfLoaf_25 rfl ?_
  refine mm_iaload (N := 5) dX1_tasteOfLoaf_26 (sh_Rl_6 hq19) (by decide) ?_
  refine mm_aload_n (j := 0) dX1_tasteOfLoaf_27 rfl rfl ?_
  obtain ⟨q28, he28, hq28, h⟩ := h
  refine mm_getR (ci := 1) (N := 5) (r := q28) dX1_tasteOfLoaf_28 fX1_12 sh_21 rfl he28 ?_
  refine mm_getR (ci := 7) (N := 11) (r := q28 + 7) dX1_tasteOfLoaf_31 fX1_95 (sh_Rl hq28) rfl (g_Rl_10 hG hq28) ?_
  refine mm_iconst (x := 1) dX1_tasteOfLoaf_34 rfl ?_
  refine mm_iaload (N := 5) dX1_tasteOfLoaf_35 (sh_Rl_7 hq28) (by decide) ?_
  refine mm_kVI [.ref (q12 + 5), .int (m4.1 (q19 + 6) (1).toNatClampNeg), .int (m4.1 (q28 + 7) (1).toNatClampNeg)] dX1_tasteOfLoaf_36 kX1_98 rfl sh_30 (by decide) (by decide) h (fun z36 m36 hG h => ?_)
  refine mm_kSI [.int z36] dX1_tasteOfLoaf_39 kX1_102 rfl (by decide) (by decide) h (fun z39 m39 hG h => ?_)
  exact mm_iret dX1_tasteOfLoaf_42 rfl (Nat.le_refl 0) (Nat.le_refl 0) ⟨_, rfl, rfl, hG, h⟩
def jX1_pickBaker_9 (d : Nat) (a1 : Nat) (x2 : Int32) (x3 : Int32) (M : mm_M) (K : Int32 → mm_M → Prop) (y2 : Int32) (y3 : Int32) (y4 : Int32) (y5 : Int32) (y6 : Int32) : Prop := mm_W mX1_pickBaker (d + 1) 0 0 9 [(0, .ref 21), (1, .ref a1), (2, .int y2), (3, .int y3), (4, .int y4), (5, .int y5), (6, .int y6)] [] mm_SH M 0 0 (mm_PI K)
def jX1_pickBaker_97 (d : Nat) (a1 : Nat) (x2 : Int32) (x3 : Int32) (M : mm_M) (K : Int32 → mm_M → Prop) (y2 : Int32) (y4 : Int32) (y5 : Int32) (y6 : Int32) (y7 : Int32) : Prop := mm_W mX1_pickBaker (d + 1) 0 0 97 [(0, .ref 21), (1, .ref a1), (2, .int y2), (4, .int y4), (5, .int y5), (6, .int y6), (7, .int y7)] [] mm_SH M 0 0 (mm_PI K)
set_option maxRecDepth 100000 in
set_option maxHeartbeats 4000000 in
theorem rX1_pickBaker {d : Nat} {a1 : Nat} {x2 : Int32} {x3 : Int32} {M : mm_M} {K : Int32 → mm_M → Prop} (ha1 : a1 ∈ mm_Sts) (hG : mm_G M.2.2) (h : jX1_pickBaker_9 d a1 x2 x3 M K x2 x3 0 (-1) 0) : mm_CI mX1_pickBaker (d + 1) [.ref 21, .ref a1, .int x2, .int x3] M K := by
  show mm_W mX1_pickBaker (d + 1) 0 0 0 [(0, .ref 21), (1, .ref a1), (2, .int x2), (3, .int x3)] [] mm_SH M 0 0 (mm_PI K)
  refine mm_iconst (x := 0) dX1_pickBaker_0 rfl ?_
  refine mm_istore (lv' := [(4, .int 0), (0, .ref 21), (1, .ref a1), (2, .int x2), (3, .int x3)]) dX1_pickBaker_1 (by decide) rfl ?_
  refine mm_iconst (x := (-1)) dX1_pickBaker_3 rfl ?_
  refine mm_istore (lv' := [(5, .int (-1)), (4, .int 0), (0, .ref 21), (1, .ref a1), (2, .int x2), (3, .int x3)]) dX1_pickBaker_4 (by decide) rfl ?_
  refine mm_iconst (x := 0) dX1_pickBaker_6 rfl ?_
  refine mm_istore (lv' := [(6, .int 0), (5, .int (-1)), (4, .int 0), (0, .ref 21), (1, .ref a1), (2, .int x2), (3, .int x3)]) dX1_pickBaker_7 (by decide) rfl ?_
  exact mm_sub [3, 4, 5, 6, 2, 1, 0] rfl h
set_option maxRecDepth 100000 in
set_option maxHeartbeats 4000000 in
theorem lX1_pickBaker_9 {d : Nat} {a1 : Nat} {x2 : Int32} {x3 : Int32} {M : mm_M} {K : Int32 → mm_M → Prop} {y2 : Int32} {y3 : Int32} {y4 : Int32} {y5 : Int32} {y6 : Int32} (ha1 : a1 ∈ mm_Sts) (hG : mm_G M.2.2) (h : if 7 ≤ y6 then (mm_CI mJ6_bitCount_0f7a4 d [.int y4] M (fun z78 m78 => if 2 ≤ z78 then (jX1_pickBaker_97 d a1 x2 x3 m78 K y2 y4 (-1) 0 0) else (K y5 m78))) else (vp_in ((8 * y2) + y6) 64 ∧ if (M.1 (a1 + 3) ((8 * y2) + y6).toNatClampNeg) ≤ 0 then (jX1_pickBaker_9 d a1 x2 x3 M K y2 y3 y4 y5 (y6 + 1)) else (vp_in y6 7 ∧ ∃ q39 : Nat, M.2.2 21 0 = some q39 ∧ q39 ∈ mm_Rls ∧ if (M.1 (a1 + 1) (y6).toNatClampNeg) < (M.1 q39 1) then (jX1_pickBaker_9 d a1 x2 x3 M K y2 y3 y4 y5 (y6 + 1)) else (if ((y3 >>> (y6 &&& 31)) &&& 1) = 0 then (jX1_pickBaker_9 d a1 x2 x3 M K y2 y3 (y4 ||| (1 <<< (y6 &&& 31))) y6 (y6 + 1)) else (jX1_pickBaker_9 d a1 x2 x3 M K y2 y3 y4 y5 (y6 + 1)))))) : jX1_pickBaker_9 d a1 x2 x3 M K y2 y3 y4 y5 y6 := by
  unfold jX1_pickBaker_9
  refine mm_iload (j := 6) dX1_pickBaker_9 rfl ?_
  refine mm_bipush (x := 7) dX1_pickBaker_11 rfl ?_
  refine mm_icmp_ge (tgt := 76) dX1_pickBaker_13 (by decide) (fun hc => ?_) (fun hc => ?_)
  · rw [if_pos hc] at h
    refine mm_iload (j := 4) dX1_pickBaker_76 rfl ?_
    refine mm_kSI [.int y4] dX1_pickBaker_78 kX1_109 rfl (by decide) (by decide) h (fun z78 m78 hG h => ?_)
    refine mm_iconst (x := 2) dX1_pickBaker_81 rfl ?_
    refine mm_icmp_ge (tgt := 88) dX1_pickBaker_82 (by decide) (fun hc => ?_) (fun hc => ?_)
    · rw [if_pos hc] at h
      refine mm_iconst (x := (-1)) dX1_pickBaker_88 rfl ?_
      refine mm_istore (lv' := [(5, .int (-1)), (0, .ref 21), (1, .ref a1), (2, .int y2), (3, .int y3), (4, .int y4), (6, .int y6)]) dX1_pickBaker_89 (by decide) rfl ?_
      refine mm_iconst (x := 0) dX1_pickBaker_91 rfl ?_
      refine mm_istore (lv' := [(6, .int 0), (5, .int (-1)), (0, .ref 21), (1, .ref a1), (2, .int y2), (3, .int y3), (4, .int y4)]) dX1_pickBaker_92 (by decide) rfl ?_
      refine mm_iconst (x := 0) dX1_pickBaker_94 rfl ?_
      refine mm_istore (lv' := [(7, .int 0), (6, .int 0), (5, .int (-1)), (0, .ref 21), (1, .ref a1), (2, .int y2), (3, .int y3), (4, .int y4)]) dX1_pickBaker_95 (by decide) rfl ?_
      exact mm_sub [3, 4, 5, 7, 2, 1, 0] rfl h
    · rw [if_neg hc] at h
      refine mm_iload (j := 5) dX1_pickBaker_85 rfl ?_
      exact mm_iret dX1_pickBaker_87 rfl (Nat.le_refl 0) (Nat.le_refl 0) ⟨_, rfl, rfl, hG, h⟩
  · rw [if_neg hc] at h
    refine mm_aload_n (j := 1) dX1_pickBaker_16 rfl rfl ?_
    refine mm_getR (ci := 9) (N := 7) (r := a1 + 3) dX1_pickBaker_17 fX1_106 (sh_St ha1) rfl (g_St_5 hG ha1) ?_
    refine mm_bipush (x := 8) dX1_pickBaker_20 rfl ?_
    refine mm_iload_n (j := 2) dX1_pickBaker_22 rfl rfl ?_
    refine mm_imul dX1_pickBaker_23 ?_
    refine mm_iload (j := 6) dX1_pickBaker_24 rfl ?_
    refine mm_iadd dX1_pickBaker_26 ?_
    obtain ⟨hi27, h⟩ := h
    refine mm_iaload (N := 64) dX1_pickBaker_27 (sh_St_3 ha1) hi27 ?_
    refine mm_if_le (tgt := 70) dX1_pickBaker_28 (by decide) (fun hc => ?_) (fun hc => ?_)
    · rw [if_pos hc] at h
      refine mm_iinc (j := 6) (v := y6 + 1) (lv' := [(6, .int (y6 + 1)), (0, .ref 21), (1, .ref a1), (2, .int y2), (3, .int y3), (4, .int y4), (5, .int y5)]) dX1_pickBaker_70 rfl rfl (by decide) rfl ?_
      refine mm_goto (tgt := 9) dX1_pickBaker_73 (by decide) ?_
      exact mm_sub [1, 2, 3, 4, 5, 6, 0] rfl h
    · rw [if_neg hc] at h
      refine mm_aload_n (j := 1) dX1_pickBaker_31 rfl rfl ?_
      refine mm_getR (ci := 9) (N := 7) (r := a1 + 1) dX1_pickBaker_32 fX1_79 (sh_St ha1) rfl (g_St_3 hG ha1) ?_
      refine mm_iload (j := 6) dX1_pickBaker_35 rfl ?_
      obtain ⟨hi37, h⟩ := h
      refine mm_iaload (N := 7) dX1_pickBaker_37 (sh_St_1 ha1) hi37 ?_
      refine mm_aload_n (j := 0) dX1_pickBaker_38 rfl rfl ?_
      obtain ⟨q39, he39, hq39, h⟩ := h
      refine mm_getR (ci := 1) (N := 5) (r := q39) dX1_pickBaker_39 fX1_12 sh_21 rfl he39 ?_
      refine mm_getI (ci := 7) (N := 11) dX1_pickBaker_42 fX1_82 (sh_Rl hq39) rfl ?_
      refine mm_icmp_lt (tgt := 70) dX1_pickBaker_45 (by decide) (fun hc => ?_) (fun hc => ?_)
      · rw [if_pos hc] at h
        refine mm_iinc (j := 6) (v := y6 + 1) (lv' := [(6, .int (y6 + 1)), (0, .ref 21), (1, .ref a1), (2, .int y2), (3, .int y3), (4, .int y4), (5, .int y5)]) dX1_pickBaker_70 rfl rfl (by decide) rfl ?_
        refine mm_goto (tgt := 9) dX1_pickBaker_73 (by decide) ?_
        exact mm_sub [1, 2, 3, 4, 5, 6, 0] rfl h
      · rw [if_neg hc] at h
        refine mm_iload_n (j := 3) dX1_pickBaker_48 rfl rfl ?_
        refine mm_iload (j := 6) dX1_pickBaker_49 rfl ?_
        refine mm_ishr dX1_pickBaker_51 ?_
        refine mm_iconst (x := 1) dX1_pickBaker_52 rfl ?_
        refine mm_iand dX1_pickBaker_53 ?_
        refine mm_if_ne (tgt := 70) dX1_pickBaker_54 (by decide) (fun hc => ?_) (fun hc => ?_)
        · rw [if_neg hc] at h
          refine mm_iinc (j := 6) (v := y6 + 1) (lv' := [(6, .int (y6 + 1)), (0, .ref 21), (1, .ref a1), (2, .int y2), (3, .int y3), (4, .int y4), (5, .int y5)]) dX1_pickBaker_70 rfl rfl (by decide) rfl ?_
          refine mm_goto (tgt := 9) dX1_pickBaker_73 (by decide) ?_
          exact mm_sub [1, 2, 3, 4, 5, 6, 0] rfl h
        · rw [if_pos hc] at h
          refine mm_iload (j := 4) dX1_pickBaker_57 rfl ?_
          refine mm_iconst (x := 1) dX1_pickBaker_59 rfl ?_
          refine mm_iload (j := 6) dX1_pickBaker_60 rfl ?_
          refine mm_ishl dX1_pickBaker_62 ?_
          refine mm_ior dX1_pickBaker_63 ?_
          refine mm_istore (lv' := [(4, .int (y4 ||| (1 <<< (y6 &&& 31)))), (0, .ref 21), (1, .ref a1), (2, .int y2), (3, .int y3), (5, .int y5), (6, .int y6)]) dX1_pickBaker_64 (by decide) rfl ?_
          refine mm_iload (j := 6) dX1_pickBaker_66 rfl ?_
          refine mm_istore (lv' := [(5, .int y6), (4, .int (y4 ||| (1 <<< (y6 &&& 31)))), (0, .ref 21), (1, .ref a1), (2, .int y2), (3, .int y3), (6, .int y6)]) dX1_pickBaker_68 (by decide) rfl ?_
          refine mm_iinc (j := 6) (v := y6 + 1) (lv' := [(6, .int (y6 + 1)), (5, .int y6), (4, .int (y4 ||| (1 <<< (y6 &&& 31)))), (0, .ref 21), (1, .ref a1), (2, .int y2), (3, .int y3)]) dX1_pickBaker_70 rfl rfl (by decide) rfl ?_
          refine mm_goto (tgt := 9) dX1_pickBaker_73 (by decide) ?_
          exact mm_sub [3, 4, 5, 6, 2, 1, 0] rfl h
set_option maxRecDepth 100000 in
set_option maxHeartbeats 4000000 in
theorem lX1_pickBaker_97 {d : Nat} {a1 : Nat} {x2 : Int32} {x3 : Int32} {M : mm_M} {K : Int32 → mm_M → Prop} {y2 : Int32} {y4 : Int32} {y5 : Int32} {y6 : Int32} {y7 : Int32} (ha1 : a1 ∈ mm_Sts) (hG : mm_G M.2.2) (h : if 7 ≤ y7 then (K y5 M) else (if ((y4 >>> (y7 &&& 31)) &&& 1) = 0 then (jX1_pickBaker_97 d a1 x2 x3 M K y2 y4 y5 y6 (y7 + 1)) else (mm_CV mX1_tellLoaf d [.ref 21, .ref a1, .int y7, .int y2] M (fun m119 => ∃ q127 : Nat, m119.2.2 21 0 = some q127 ∧ q127 ∈ mm_Rls ∧ ∃ q134 : Nat, m119.2.2 21 0 = some q134 ∧ q134 ∈ mm_Rls ∧ ∃ q143 : Nat, m119.2.2 21 0 = some q143 ∧ q143 ∈ mm_Rls ∧ mm_CI mX5_value d [.ref 30, .ref (q127 + 5), .int (m119.1 (q134 + 6) (0).toNatClampNeg), .int (m119.1 (q143 + 7) (0).toNatClampNeg)] m119 (fun z151 m151 => if y5 = (-1) then (jX1_pickBaker_97 d a1 x2 x3 m151 K y2 y4 y7 z151 (y7 + 1)) else (if z151 ≤ y6 then (jX1_pickBaker_97 d a1 x2 x3 m151 K y2 y4 y5 y6 (y7 + 1)) else (jX1_pickBaker_97 d a1 x2 x3 m151 K y2 y4 y7 z151 (y7 + 1)))))))) : jX1_pickBaker_97 d a1 x2 x3 M K y2 y4 y5 y6 y7 := by
  unfold jX1_pickBaker_97
  refine mm_iload (j := 6) dX1_pickBaker_97 rfl ?_
  refine mm_bipush (x := 7) dX1_pickBaker_99 rfl ?_
  refine mm_icmp_ge (tgt := 183) dX1_pickBaker_101 (by decide) (fun hc => ?_) (fun hc => ?_)
  · rw [if_pos hc] at h
    refine mm_iload (j := 4) dX1_pickBaker_183 rfl ?_
    exact mm_iret dX1_pickBaker_185 rfl (Nat.le_refl 0) (Nat.le_refl 0) ⟨_, rfl, rfl, hG, h⟩
  · rw [if_neg hc] at h
    refine mm_iload (j := 3) dX1_pickBaker_104 rfl ?_
    refine mm_iload (j := 6) dX1_pickBaker_106 rfl ?_
    refine mm_ishr dX1_pickBaker_108 ?_
    refine mm_iconst (x := 1) dX1_pickBaker_109 rfl ?_
    refine mm_iand dX1_pickBaker_110 ?_
    refine mm_if_eq (tgt := 177) dX1_pickBaker_111 (by decide) (fun hc => ?_) (fun hc => ?_)
    · rw [if_pos hc] at h
      refine mm_iinc (j := 6) (v := y7 + 1) (lv' := [(7, .int (y7 + 1)), (0, .ref 21), (1, .ref a1), (2, .int y2), (4, .int y4), (5, .int y5), (6, .int y6)]) dX1_pickBaker_177 rfl rfl (by decide) rfl ?_
      refine mm_goto (tgt := 97) dX1_pickBaker_180 (by decide) ?_
      exact mm_sub [1, 2, 3, 4, 5, 6, 0] rfl h
    · rw [if_neg hc] at h
      refine mm_aload_n (j := 0) dX1_pickBaker_114 rfl rfl ?_
      refine mm_aload_n (j := 1) dX1_pickBaker_115 rfl rfl ?_
      refine mm_iload (j := 6) dX1_pickBaker_116 rfl ?_
      refine mm_iload_n (j := 2) dX1_pickBaker_118 rfl rfl ?_
      refine mm_kVV [.ref a1, .int y7, .int y2] dX1_pickBaker_119 kX1_85 rfl sh_21 (by decide) (by decide) h (fun m119 hG h => ?_)
      refine mm_aload_n (j := 0) dX1_pickBaker_122 rfl rfl ?_
      refine mm_getR (ci := 1) (N := 5) (r := 30) dX1_pickBaker_123 fX1_21 sh_21 rfl (g_21_1 hG) ?_
      refine mm_aload_n (j := 0) dX1_pickBaker_126 rfl rfl ?_
      obtain ⟨q127, he127, hq127, h⟩ := h
      refine mm_getR (ci := 1) (N := 5) (r := q127) dX1_pickBaker_127 fX1_12 sh_21 rfl he127 ?_
      refine mm_getR (ci := 7) (N := 11) (r := q127 + 5) dX1_pickBaker_130 fX1_89 (sh_Rl hq127) rfl (g_Rl_8 hG hq127) ?_
      refine mm_aload_n (j := 0) dX1_pickBaker_133 rfl rfl ?_
      obtain ⟨q134, he134, hq134, h⟩ := h
      refine mm_getR (ci := 1) (N := 5) (r := q134) dX1_pickBaker_134 fX1_12 sh_21 rfl he134 ?_
      refine mm_getR (ci := 7) (N := 11) (r := q134 + 6) dX1_pickBaker_137 fX1_92 (sh_Rl hq134) rfl (g_Rl_9 hG hq134) ?_
      refine mm_iconst (x := 0) dX1_pickBaker_140 rfl ?_
      refine mm_iaload (N := 5) dX1_pickBaker_141 (sh_Rl_6 hq134) (by decide) ?_
      refine mm_aload_n (j := 0) dX1_pickBaker_142 rfl rfl ?_
      obtain ⟨q143, he143, hq143, h⟩ := h
      refine mm_getR (ci := 1) (N := 5) (r := q143) dX1_pickBaker_143 fX1_12 sh_21 rfl he143 ?_
      refine mm_getR (ci := 7) (N := 11) (r := q143 + 7) dX1_pickBaker_146 fX1_95 (sh_Rl hq143) rfl (g_Rl_10 hG hq143) ?_
      refine mm_iconst (x := 0) dX1_pickBaker_149 rfl ?_
      refine mm_iaload (N := 5) dX1_pickBaker_150 (sh_Rl_7 hq143) (by decide) ?_
      refine mm_kVI [.ref (q127 + 5), .int (m119.1 (q134 + 6) (0).toNatClampNeg), .int (m119.1 (q143 + 7) (0).toNatClampNeg)] dX1_pickBaker_151 kX1_98 rfl sh_30 (by decide) (by decide) h (fun z151 m151 hG h => ?_)
      refine mm_istore (lv' := [(8, .int z151), (0, .ref 21), (1, .ref a1), (2, .int y2), (4, .int y4), (5, .int y5), (6, .int y6), (7, .int y7)]) dX1_pickBaker_154 (by decide) rfl ?_
      refine mm_iload (j := 5) dX1_pickBaker_156 rfl ?_
      refine mm_iconst (x := (-1)) dX1_pickBaker_158 rfl ?_
      refine mm_icmp_eq (tgt := 169) dX1_pickBaker_159 (by decide) (fun hc => ?_) (fun hc => ?_)
      · rw [if_pos hc] at h
        refine mm_iload (j := 7) dX1_pickBaker_169 rfl ?_
        refine mm_istore (lv' := [(5, .int y7), (8, .int z151), (0, .ref 21), (1, .ref a1), (2, .int y2), (4, .int y4), (6, .int y6), (7, .int y7)]) dX1_pickBaker_171 (by decide) rfl ?_
        refine mm_iload (j := 1) dX1_pickBaker_173 rfl ?_
        refine mm_istore (lv' := [(6, .int z151), (5, .int y7), (8, .int z151), (0, .ref 21), (1, .ref a1), (2, .int y2), (4, .int y4), (7, .int y7)]) dX1_pickBaker_175 (by decide) rfl ?_
        refine mm_iinc (j := 7) (v := y7 + 1) (lv' := [(7, .int (y7 + 1)), (6, .int z151), (5, .int y7), (8, .int z151), (0, .ref 21), (1, .ref a1), (2, .int y2), (4, .int y4)]) dX1_pickBaker_177 rfl rfl (by decide) rfl ?_
        refine mm_goto (tgt := 97) dX1_pickBaker_180 (by decide) ?_
        exact mm_sub [4, 5, 6, 7, 2, 1, 0] rfl h
      · rw [if_neg hc] at h
        refine mm_iload (j := 0) dX1_pickBaker_162 rfl ?_
        refine mm_iload (j := 6) dX1_pickBaker_164 rfl ?_
        refine mm_icmp_le (tgt := 177) dX1_pickBaker_166 (by decide) (fun hc => ?_) (fun hc => ?_)
        · rw [if_pos hc] at h
          refine mm_iinc (j := 7) (v := y7 + 1) (lv' := [(7, .int (y7 + 1)), (8, .int z151), (0, .ref 21), (1, .ref a1), (2, .int y2), (4, .int y4), (5, .int y5), (6, .int y6)]) dX1_pickBaker_177 rfl rfl (by decide) rfl ?_
          refine mm_goto (tgt := 97) dX1_pickBaker_180 (by decide) ?_
          exact mm_sub [2, 3, 4, 5, 6, 7, 0] rfl h
        · rw [if_neg hc] at h
          refine mm_iload (j := 7) dX1_pickBaker_169 rfl ?_
          refine mm_istore (lv' := [(5, .int y7), (8, .int z151), (0, .ref 21), (1, .ref a1), (2, .int y2), (4, .int y4), (6, .int y6), (7, .int y7)]) dX1_pickBaker_171 (by decide) rfl ?_
          refine mm_iload (j := 1) dX1_pickBaker_173 rfl ?_
          refine mm_istore (lv' := [(6, .int z151), (5, .int y7), (8, .int z151), (0, .ref 21), (1, .ref a1), (2, .int y2), (4, .int y4), (7, .int y7)]) dX1_pickBaker_175 (by decide) rfl ?_
          refine mm_iinc (j := 7) (v := y7 + 1) (lv' := [(7, .int (y7 + 1)), (6, .int z151), (5, .int y7), (8, .int z151), (0, .ref 21), (1, .ref a1), (2, .int y2), (4, .int y4)]) dX1_pickBaker_177 rfl rfl (by decide) rfl ?_
          refine mm_goto (tgt := 97) dX1_pickBaker_180 (by decide) ?_
          exact mm_sub [4, 5, 6, 7, 2, 1, 0] rfl h
def jX1_starve_2 (d : Nat) (a1 : Nat) (M : mm_M) (K : mm_M → Prop) (y2 : Int32) : Prop := mm_W mX1_starve (d + 1) 0 0 2 [(0, .ref 21), (1, .ref a1), (2, .int y2)] [] mm_SH M 0 0 (mm_PV K)
set_option maxRecDepth 100000 in
set_option maxHeartbeats 4000000 in
theorem rX1_starve {d : Nat} {a1 : Nat} {M : mm_M} {K : mm_M → Prop} (ha1 : a1 ∈ mm_Sts) (hG : mm_G M.2.2) (h : jX1_starve_2 d a1 M K 0) : mm_CV mX1_starve (d + 1) [.ref 21, .ref a1] M K := by
  show mm_W mX1_starve (d + 1) 0 0 0 [(0, .ref 21), (1, .ref a1)] [] mm_SH M 0 0 (mm_PV K)
  refine mm_iconst (x := 0) dX1_starve_0 rfl ?_
  refine mm_istore_n (lv' := [(2, .int 0), (0, .ref 21), (1, .ref a1)]) dX1_starve_1 rfl (by decide) rfl ?_
  exact mm_sub [1, 2, 0] rfl h
set_option maxRecDepth 100000 in
set_option maxHeartbeats 4000000 in
theorem lX1_starve_2 {d : Nat} {a1 : Nat} {M : mm_M} {K : mm_M → Prop} {y2 : Int32} (ha1 : a1 ∈ mm_Sts) (hG : mm_G M.2.2) (h : if 7 ≤ y2 then (K M) else (mm_CI mX9_isThere d [.ref a1, .int y2] M (fun z10 m10 => if z10 = 0 then (jX1_starve_2 d a1 m10 K (y2 + 1)) else (mm_CV mX1_tellHouse d [.ref 21, .ref a1, .int y2] m10 (fun m19 => ∃ q27 : Nat, m19.2.2 21 0 = some q27 ∧ q27 ∈ mm_Rls ∧ ∃ q34 : Nat, m19.2.2 21 0 = some q34 ∧ q34 ∈ mm_Rls ∧ ∃ q43 : Nat, m19.2.2 21 0 = some q43 ∧ q43 ∈ mm_Rls ∧ mm_CI mX5_value d [.ref 30, .ref (q27 + 5), .int (m19.1 (q34 + 6) (2).toNatClampNeg), .int (m19.1 (q43 + 7) (2).toNatClampNeg)] m19 (fun z51 m51 => if z51 = 0 then (jX1_starve_2 d a1 m51 K (y2 + 1)) else (mm_CV mX9_bury d [.ref a1, .int y2] m51 (fun m61 => jX1_starve_2 d a1 m61 K (y2 + 1))))))))) : jX1_starve_2 d a1 M K y2 := by
  unfold jX1_starve_2
  refine mm_iload_n (j := 2) dX1_starve_2 rfl rfl ?_
  refine mm_bipush (x := 7) dX1_starve_3 rfl ?_
  refine mm_icmp_ge (tgt := 70) dX1_starve_5 (by decide) (fun hc => ?_) (fun hc => ?_)
  · rw [if_pos hc] at h
    exact mm_vret dX1_starve_70 rfl (Nat.le_refl 0) (Nat.le_refl 0) ⟨rfl, rfl, hG, h⟩
  · rw [if_neg hc] at h
    refine mm_aload_n (j := 1) dX1_starve_8 rfl rfl ?_
    refine mm_iload_n (j := 2) dX1_starve_9 rfl rfl ?_
    refine mm_kVI [.int y2] dX1_starve_10 kX1_55 rfl (sh_St ha1) (by decide) (by decide) h (fun z10 m10 hG h => ?_)
    refine mm_if_eq (tgt := 64) dX1_starve_13 (by decide) (fun hc => ?_) (fun hc => ?_)
    · rw [if_pos hc] at h
      refine mm_iinc (j := 2) (v := y2 + 1) (lv' := [(2, .int (y2 + 1)), (0, .ref 21), (1, .ref a1)]) dX1_starve_64 rfl rfl (by decide) rfl ?_
      refine mm_goto (tgt := 2) dX1_starve_67 (by decide) ?_
      exact mm_sub [1, 2, 0] rfl h
    · rw [if_neg hc] at h
      refine mm_aload_n (j := 0) dX1_starve_16 rfl rfl ?_
      refine mm_aload_n (j := 1) dX1_starve_17 rfl rfl ?_
      refine mm_iload_n (j := 2) dX1_starve_18 rfl rfl ?_
      refine mm_kVV [.ref a1, .int y2] dX1_starve_19 kX1_114 rfl sh_21 (by decide) (by decide) h (fun m19 hG h => ?_)
      refine mm_aload_n (j := 0) dX1_starve_22 rfl rfl ?_
      refine mm_getR (ci := 1) (N := 5) (r := 30) dX1_starve_23 fX1_21 sh_21 rfl (g_21_1 hG) ?_
      refine mm_aload_n (j := 0) dX1_starve_26 rfl rfl ?_
      obtain ⟨q27, he27, hq27, h⟩ := h
      refine mm_getR (ci := 1) (N := 5) (r := q27) dX1_starve_27 fX1_12 sh_21 rfl he27 ?_
      refine mm_getR (ci := 7) (N := 11) (r := q27 + 5) dX1_starve_30 fX1_89 (sh_Rl hq27) rfl (g_Rl_8 hG hq27) ?_
      refine mm_aload_n (j := 0) dX1_starve_33 rfl rfl ?_
      obtain ⟨q34, he34, hq34, h⟩ := h
      refine mm_getR (ci := 1) (N := 5) (r := q34) dX1_starve_34 fX1_12 sh_21 rfl he34 ?_
      refine mm_getR (ci := 7) (N := 11) (r := q34 + 6) dX1_starve_37 fX1_92 (sh_Rl hq34) rfl (g_Rl_9 hG hq34) ?_
      refine mm_iconst (x := 2) dX1_starve_40 rfl ?_
      refine mm_iaload (N := 5) dX1_starve_41 (sh_Rl_6 hq34) (by decide) ?_
      refine mm_aload_n (j := 0) dX1_starve_42 rfl rfl ?_
      obtain ⟨q43, he43, hq43, h⟩ := h
      refine mm_getR (ci := 1) (N := 5) (r := q43) dX1_starve_43 fX1_12 sh_21 rfl he43 ?_
      refine mm_getR (ci := 7) (N := 11) (r := q43 + 7) dX1_starve_46 fX1_95 (sh_Rl hq43) rfl (g_Rl_10 hG hq43) ?_
      refine mm_iconst (x := 2) dX1_starve_49 rfl ?_
      refine mm_iaload (N := 5) dX1_starve_50 (sh_Rl_7 hq43) (by decide) ?_
      refine mm_kVI [.ref (q27 + 5), .int (m19.1 (q34 + 6) (2).toNatClampNeg), .int (m19.1 (q43 + 7) (2).toNatClampNeg)] dX1_starve_51 kX1_98 rfl sh_30 (by decide) (by decide) h (fun z51 m51 hG h => ?_)
      refine mm_istore_n (lv' := [(3, .int z51), (0, .ref 21), (1, .ref a1), (2, .int y2)]) dX1_starve_54 rfl (by decide) rfl ?_
      refine mm_iload_n (j := 0) dX1_starve_55 rfl rfl ?_
      refine mm_if_eq (tgt := 64) dX1_starve_56 (by decide) (fun hc => ?_) (fun hc => ?_)
      · rw [if_pos hc] at h
        refine mm_iinc (j := 3) (v := y2 + 1) (lv' := [(2, .int (y2 + 1)), (3, .int z51), (0, .ref 21), (1, .ref a1)]) dX1_starve_64 rfl rfl (by decide) rfl ?_
        refine mm_goto (tgt := 2) dX1_starve_67 (by decide) ?_
        exact mm_sub [2, 3, 0] rfl h
      · rw [if_neg hc] at h
        refine mm_aload_n (j := 2) dX1_starve_59 rfl rfl ?_
        refine mm_iload_n (j := 3) dX1_starve_60 rfl rfl ?_
        refine mm_kVV [.int y2] dX1_starve_61 kX1_118 rfl (sh_St ha1) (by decide) (by decide) h (fun m61 hG h => ?_)
        refine mm_iinc (j := 3) (v := y2 + 1) (lv' := [(2, .int (y2 + 1)), (3, .int z51), (0, .ref 21), (1, .ref a1)]) dX1_starve_64 rfl rfl (by decide) rfl ?_
        refine mm_goto (tgt := 2) dX1_starve_67 (by decide) ?_
        exact mm_sub [2, 3, 0] rfl h
def jX1_cool_16 (d : Nat) (a1 : Nat) (M : mm_M) (K : mm_M → Prop) (y2 : Int32) : Prop := mm_W mX1_cool (d + 1) 0 0 16 [(0, .ref 21), (1, .ref a1), (2, .int y2)] [] mm_SH M 0 0 (mm_PV K)
def jX1_cool_26 (d : Nat) (a1 : Nat) (M : mm_M) (K : mm_M → Prop) (y2 : Int32) (y3 : Int32) : Prop := mm_W mX1_cool (d + 1) 0 0 26 [(0, .ref 21), (1, .ref a1), (2, .int y2), (3, .int y3)] [] mm_SH M 0 0 (mm_PV K)
def jX1_cool_101 (d : Nat) (a1 : Nat) (M : mm_M) (K : mm_M → Prop) (y2 : Int32) (y3 : Int32) (u0 : Int32) (u1 : Int32) (u2 : Int32) : Prop := mm_W mX1_cool (d + 1) 0 0 101 [(0, .ref 21), (1, .ref a1), (2, .int y2), (3, .int y3)] [.int u0, .int u1, .int u2, .ref 31] mm_SH M 0 0 (mm_PV K)
set_option maxRecDepth 100000 in
set_option maxHeartbeats 4000000 in
theorem rX1_cool {d : Nat} {a1 : Nat} {M : mm_M} {K : mm_M → Prop} (ha1 : a1 ∈ mm_Sts) (hG : mm_G M.2.2) (h : jX1_cool_16 d a1 (mm_uI M 31 (13).toNatClampNeg (M.1 a1 0)) K 0) : mm_CV mX1_cool (d + 1) [.ref 21, .ref a1] M K := by
  show mm_W mX1_cool (d + 1) 0 0 0 [(0, .ref 21), (1, .ref a1)] [] mm_SH M 0 0 (mm_PV K)
  refine mm_aload_n (j := 0) dX1_cool_0 rfl rfl ?_
  refine mm_getR (ci := 1) (N := 5) (r := 30) dX1_cool_1 fX1_21 sh_21 rfl (g_21_1 hG) ?_
  refine mm_getR (ci := 5) (N := 4) (r := 31) dX1_cool_4 fX1_122 sh_30 rfl (g_30_0 hG) ?_
  refine mm_bipush (x := 13) dX1_cool_7 rfl ?_
  refine mm_aload_n (j := 1) dX1_cool_9 rfl rfl ?_
  refine mm_getI (ci := 9) (N := 7) dX1_cool_10 fX1_46 (sh_St ha1) rfl ?_
  refine mm_iastore (N := 24) dX1_cool_13 sh_31 (by decide) ?_
  refine mm_iconst (x := 0) dX1_cool_14 rfl ?_
  refine mm_istore_n (lv' := [(2, .int 0), (0, .ref 21), (1, .ref a1)]) dX1_cool_15 rfl (by decide) rfl ?_
  exact mm_sub [1, 2, 0] rfl h
set_option maxRecDepth 100000 in
set_option maxHeartbeats 4000000 in
theorem lX1_cool_16 {d : Nat} {a1 : Nat} {M : mm_M} {K : mm_M → Prop} {y2 : Int32} (ha1 : a1 ∈ mm_Sts) (hG : mm_G M.2.2) (h : if 7 ≤ y2 then (K M) else (jX1_cool_26 d a1 M K y2 (y2 + 1))) : jX1_cool_16 d a1 M K y2 := by
  unfold jX1_cool_16
  refine mm_iload_n (j := 2) dX1_cool_16 rfl rfl ?_
  refine mm_bipush (x := 7) dX1_cool_17 rfl ?_
  refine mm_icmp_ge (tgt := 160) dX1_cool_19 (by decide) (fun hc => ?_) (fun hc => ?_)
  · rw [if_pos hc] at h
    exact mm_vret dX1_cool_160 rfl (Nat.le_refl 0) (Nat.le_refl 0) ⟨rfl, rfl, hG, h⟩
  · rw [if_neg hc] at h
    refine mm_iload_n (j := 2) dX1_cool_22 rfl rfl ?_
    refine mm_iconst (x := 1) dX1_cool_23 rfl ?_
    refine mm_iadd dX1_cool_24 ?_
    refine mm_istore_n (lv' := [(3, .int (y2 + 1)), (0, .ref 21), (1, .ref a1), (2, .int y2)]) dX1_cool_25 rfl (by decide) rfl ?_
    exact mm_sub [1, 2, 3, 0] rfl h
set_option maxRecDepth 100000 in
set_option maxHeartbeats 4000000 in
theorem lX1_cool_26 {d : Nat} {a1 : Nat} {M : mm_M} {K : mm_M → Prop} {y2 : Int32} {y3 : Int32} (ha1 : a1 ∈ mm_Sts) (hG : mm_G M.2.2) (h : if 7 ≤ y3 then (jX1_cool_16 d a1 M K (y2 + 1)) else (vp_in ((8 * y2) + y3) 64 ∧ if (M.1 (a1 + 3) ((8 * y2) + y3).toNatClampNeg) ≤ 0 then (jX1_cool_26 d a1 M K y2 (y3 + 1)) else (vp_in y2 7 ∧ if ((mm_uI M 31 (6).toNatClampNeg (M.1 (a1 + 3) ((8 * y2) + y3).toNatClampNeg)).1 35 (y2).toNatClampNeg) = y3 then (vp_in y3 7 ∧ if ((mm_uI M 31 (6).toNatClampNeg (M.1 (a1 + 3) ((8 * y2) + y3).toNatClampNeg)).1 35 (y3).toNatClampNeg) = y2 then (jX1_cool_101 d a1 (mm_uI M 31 (6).toNatClampNeg (M.1 (a1 + 3) ((8 * y2) + y3).toNatClampNeg)) K y2 y3 1 1 15) else (jX1_cool_101 d a1 (mm_uI M 31 (6).toNatClampNeg (M.1 (a1 + 3) ((8 * y2) + y3).toNatClampNeg)) K y2 y3 0 1 15)) else (vp_in y3 7 ∧ if ((mm_uI M 31 (6).toNatClampNeg (M.1 (a1 + 3) ((8 * y2) + y3).toNatClampNeg)).1 35 (y3).toNatClampNeg) = y2 then (jX1_cool_101 d a1 (mm_uI M 31 (6).toNatClampNeg (M.1 (a1 + 3) ((8 * y2) + y3).toNatClampNeg)) K y2 y3 1 0 15) else (jX1_cool_101 d a1 (mm_uI M 31 (6).toNatClampNeg (M.1 (a1 + 3) ((8 * y2) + y3).toNatClampNeg)) K y2 y3 0 0 15))))) : jX1_cool_26 d a1 M K y2 y3 := by
  unfold jX1_cool_26
  refine mm_iload_n (j := 3) dX1_cool_26 rfl rfl ?_
  refine mm_bipush (x := 7) dX1_cool_27 rfl ?_
  refine mm_icmp_ge (tgt := 154) dX1_cool_29 (by decide) (fun hc => ?_) (fun hc => ?_)
  · rw [if_pos hc] at h
    refine mm_iinc (j := 2) (v := y2 + 1) (lv' := [(2, .int (y2 + 1)), (0, .ref 21), (1, .ref a1), (3, .int y3)]) dX1_cool_154 rfl rfl (by decide) rfl ?_
    refine mm_goto (tgt := 16) dX1_cool_157 (by decide) ?_
    exact mm_sub [1, 2, 0] rfl h
  · rw [if_neg hc] at h
    refine mm_aload_n (j := 1) dX1_cool_32 rfl rfl ?_
    refine mm_getR (ci := 9) (N := 7) (r := a1 + 3) dX1_cool_33 fX1_106 (sh_St ha1) rfl (g_St_5 hG ha1) ?_
    refine mm_bipush (x := 8) dX1_cool_36 rfl ?_
    refine mm_iload_n (j := 2) dX1_cool_38 rfl rfl ?_
    refine mm_imul dX1_cool_39 ?_
    refine mm_iload_n (j := 3) dX1_cool_40 rfl rfl ?_
    refine mm_iadd dX1_cool_41 ?_
    obtain ⟨hi42, h⟩ := h
    refine mm_iaload (N := 64) dX1_cool_42 (sh_St_3 ha1) hi42 ?_
    refine mm_istore (lv' := [(4, .int (M.1 (a1 + 3) ((8 * y2) + y3).toNatClampNeg)), (0, .ref 21), (1, .ref a1), (2, .int y2), (3, .int y3)]) dX1_cool_43 (by decide) rfl ?_
    refine mm_iload (j := 0) dX1_cool_45 rfl ?_
    refine mm_if_le (tgt := 148) dX1_cool_47 (by decide) (fun hc => ?_) (fun hc => ?_)
    · rw [if_pos hc] at h
      refine mm_iinc (j := 4) (v := y3 + 1) (lv' := [(3, .int (y3 + 1)), (4, .int (M.1 (a1 + 3) ((8 * y2) + y3).toNatClampNeg)), (0, .ref 21), (1, .ref a1), (2, .int y2)]) dX1_cool_148 rfl rfl (by decide) rfl ?_
      refine mm_goto (tgt := 26) dX1_cool_151 (by decide) ?_
      exact mm_sub [2, 3, 4, 0] rfl h
    · rw [if_neg hc] at h
      refine mm_aload_n (j := 1) dX1_cool_50 rfl rfl ?_
      refine mm_getR (ci := 1) (N := 5) (r := 30) dX1_cool_51 fX1_21 sh_21 rfl (g_21_1 hG) ?_
      refine mm_getR (ci := 5) (N := 4) (r := 31) dX1_cool_54 fX1_122 sh_30 rfl (g_30_0 hG) ?_
      refine mm_bipush (x := 6) dX1_cool_57 rfl ?_
      refine mm_iload (j := 0) dX1_cool_59 rfl ?_
      refine mm_iastore (N := 24) dX1_cool_61 sh_31 (by decide) ?_
      refine mm_aload_n (j := 1) dX1_cool_62 rfl rfl ?_
      refine mm_getR (ci := 1) (N := 5) (r := 30) dX1_cool_63 fX1_21 sh_21 rfl (g_21_1 hG) ?_
      refine mm_getR (ci := 5) (N := 4) (r := 31) dX1_cool_66 fX1_122 sh_30 rfl (g_30_0 hG) ?_
      refine mm_bipush (x := 15) dX1_cool_69 rfl ?_
      refine mm_aload_n (j := 1) dX1_cool_71 rfl rfl ?_
      refine mm_getR (ci := 1) (N := 5) (r := 35) dX1_cool_72 fX1_25 sh_21 rfl (g_21_2 hG) ?_
      refine mm_iload_n (j := 3) dX1_cool_75 rfl rfl ?_
      obtain ⟨hi76, h⟩ := h
      refine mm_iaload (N := 7) dX1_cool_76 sh_35 hi76 ?_
      refine mm_iload_n (j := 4) dX1_cool_77 rfl rfl ?_
      refine mm_icmp_ne (tgt := 85) dX1_cool_78 (by decide) (fun hc => ?_) (fun hc => ?_)
      · rw [if_neg hc] at h
        refine mm_iconst (x := 0) dX1_cool_85 rfl ?_
        refine mm_aload_n (j := 1) dX1_cool_86 rfl rfl ?_
        refine mm_getR (ci := 1) (N := 5) (r := 35) dX1_cool_87 fX1_25 sh_21 rfl (g_21_2 hG) ?_
        refine mm_iload_n (j := 4) dX1_cool_90 rfl rfl ?_
        obtain ⟨hi91, h⟩ := h
        refine mm_iaload (N := 7) dX1_cool_91 sh_35 hi91 ?_
        refine mm_iload_n (j := 3) dX1_cool_92 rfl rfl ?_
        refine mm_icmp_ne (tgt := 100) dX1_cool_93 (by decide) (fun hc => ?_) (fun hc => ?_)
        · rw [if_neg hc] at h
          refine mm_iconst (x := 0) dX1_cool_100 rfl ?_
          exact mm_sub [1, 2, 3, 4] rfl h
        · rw [if_pos hc] at h
          refine mm_iconst (x := 1) dX1_cool_96 rfl ?_
          refine mm_goto (tgt := 101) dX1_cool_97 (by decide) ?_
          exact mm_sub [1, 2, 3, 4] rfl h
      · rw [if_pos hc] at h
        refine mm_iconst (x := 1) dX1_cool_81 rfl ?_
        refine mm_goto (tgt := 86) dX1_cool_82 (by decide) ?_
        refine mm_aload_n (j := 1) dX1_cool_86 rfl rfl ?_
        refine mm_getR (ci := 1) (N := 5) (r := 35) dX1_cool_87 fX1_25 sh_21 rfl (g_21_2 hG) ?_
        refine mm_iload_n (j := 4) dX1_cool_90 rfl rfl ?_
        obtain ⟨hi91, h⟩ := h
        refine mm_iaload (N := 7) dX1_cool_91 sh_35 hi91 ?_
        refine mm_iload_n (j := 3) dX1_cool_92 rfl rfl ?_
        refine mm_icmp_ne (tgt := 100) dX1_cool_93 (by decide) (fun hc => ?_) (fun hc => ?_)
        · rw [if_neg hc] at h
          refine mm_iconst (x := 0) dX1_cool_100 rfl ?_
          exact mm_sub [1, 2, 3, 4] rfl h
        · rw [if_pos hc] at h
          refine mm_iconst (x := 1) dX1_cool_96 rfl ?_
          refine mm_goto (tgt := 101) dX1_cool_97 (by decide) ?_
          exact mm_sub [1, 2, 3, 4] rfl h
set_option maxRecDepth 100000 in
set_option maxHeartbeats 4000000 in
theorem lX1_cool_101 {d : Nat} {a1 : Nat} {M : mm_M} {K : mm_M → Prop} {y2 : Int32} {y3 : Int32} {u0 : Int32} {u1 : Int32} {u2 : Int32} (ha1 : a1 ∈ mm_Sts) (hG : mm_G M.2.2) (h : vp_in u2 24 ∧ ∃ q108 : Nat, (mm_uI M 31 (u2).toNatClampNeg (u1 + u0)).2.2 21 0 = some q108 ∧ q108 ∈ mm_Rls ∧ ∃ q115 : Nat, (mm_uI M 31 (u2).toNatClampNeg (u1 + u0)).2.2 21 0 = some q115 ∧ q115 ∈ mm_Rls ∧ ∃ q124 : Nat, (mm_uI M 31 (u2).toNatClampNeg (u1 + u0)).2.2 21 0 = some q124 ∧ q124 ∈ mm_Rls ∧ mm_CI mX5_value d [.ref 30, .ref (q108 + 5), .int ((mm_uI M 31 (u2).toNatClampNeg (u1 + u0)).1 (q115 + 6) (3).toNatClampNeg), .int ((mm_uI M 31 (u2).toNatClampNeg (u1 + u0)).1 (q124 + 7) (3).toNatClampNeg)] (mm_uI M 31 (u2).toNatClampNeg (u1 + u0)) (fun z132 m132 => mm_CI mX1_bounded d [.int z132] m132 (fun z142 m142 => mm_CV mX9_setHate d [.ref a1, .int y2, .int y3, .int z142] m142 (fun m145 => jX1_cool_26 d a1 m145 K y2 (y3 + 1))))) : jX1_cool_101 d a1 M K y2 y3 u0 u1 u2 := by
  unfold jX1_cool_101
  refine mm_iadd dX1_cool_101 ?_
  obtain ⟨hi102, h⟩ := h
  refine mm_iastore (N := 24) dX1_cool_102 sh_31 hi102 ?_
  refine mm_aload_n (j := 0) dX1_cool_103 rfl rfl ?_
  refine mm_getR (ci := 1) (N := 5) (r := 30) dX1_cool_104 fX1_21 sh_21 rfl (g_21_1 hG) ?_
  refine mm_aload_n (j := 0) dX1_cool_107 rfl rfl ?_
  obtain ⟨q108, he108, hq108, h⟩ := h
  refine mm_getR (ci := 1) (N := 5) (r := q108) dX1_cool_108 fX1_12 sh_21 rfl he108 ?_
  refine mm_getR (ci := 7) (N := 11) (r := q108 + 5) dX1_cool_111 fX1_89 (sh_Rl hq108) rfl (g_Rl_8 hG hq108) ?_
  refine mm_aload_n (j := 0) dX1_cool_114 rfl rfl ?_
  obtain ⟨q115, he115, hq115, h⟩ := h
  refine mm_getR (ci := 1) (N := 5) (r := q115) dX1_cool_115 fX1_12 sh_21 rfl he115 ?_
  refine mm_getR (ci := 7) (N := 11) (r := q115 + 6) dX1_cool_118 fX1_92 (sh_Rl hq115) rfl (g_Rl_9 hG hq115) ?_
  refine mm_iconst (x := 3) dX1_cool_121 rfl ?_
  refine mm_iaload (N := 5) dX1_cool_122 (sh_Rl_6 hq115) (by decide) ?_
  refine mm_aload_n (j := 0) dX1_cool_123 rfl rfl ?_
  obtain ⟨q124, he124, hq124, h⟩ := h
  refine mm_getR (ci := 1) (N := 5) (r := q124) dX1_cool_124 fX1_12 sh_21 rfl he124 ?_
  refine mm_getR (ci := 7) (N := 11) (r := q124 + 7) dX1_cool_127 fX1_95 (sh_Rl hq124) rfl (g_Rl_10 hG hq124) ?_
  refine mm_iconst (x := 3) dX1_cool_130 rfl ?_
  refine mm_iaload (N := 5) dX1_cool_131 (sh_Rl_7 hq124) (by decide) ?_
  refine mm_kVI [.ref (q108 + 5), .int ((mm_uI M 31 (u2).toNatClampNeg (u1 + u0)).1 (q115 + 6) (3).toNatClampNeg), .int ((mm_uI M 31 (u2).toNatClampNeg (u1 + u0)).1 (q124 + 7) (3).toNatClampNeg)] dX1_cool_132 kX1_98 rfl sh_30 (by decide) (by decide) h (fun z132 m132 hG h => ?_)
  refine mm_istore (lv' := [(5, .int z132), (0, .ref 21), (1, .ref a1), (2, .int y2), (3, .int y3)]) dX1_cool_135 (by decide) rfl ?_
  refine mm_aload_n (j := 2) dX1_cool_137 rfl rfl ?_
  refine mm_iload_n (j := 3) dX1_cool_138 rfl rfl ?_
  refine mm_iload_n (j := 4) dX1_cool_139 rfl rfl ?_
  refine mm_iload (j := 0) dX1_cool_140 rfl ?_
  refine mm_kSI [.int z132] dX1_cool_142 kX1_102 rfl (by decide) (by decide) h (fun z142 m142 hG h => ?_)
  refine mm_kVV [.int y2, .int y3, .int z142] dX1_cool_145 kX1_127 rfl (sh_St ha1) (by decide) (by decide) h (fun m145 hG h => ?_)
  refine mm_iinc (j := 4) (v := y3 + 1) (lv' := [(3, .int (y3 + 1)), (5, .int z132), (0, .ref 21), (1, .ref a1), (2, .int y2)]) dX1_cool_148 rfl rfl (by decide) rfl ?_
  refine mm_goto (tgt := 26) dX1_cool_151 (by decide) ?_
  exact mm_sub [2, 3, 4, 0] rfl h
def jX1_grow_2 (d : Nat) (a1 : Nat) (M : mm_M) (K : mm_M → Prop) (y2 : Int32) : Prop := mm_W mX1_grow (d + 1) 0 0 2 [(0, .ref 21), (1, .ref a1), (2, .int y2)] [] mm_SH M 0 0 (mm_PV K)
set_option maxRecDepth 100000 in
set_option maxHeartbeats 4000000 in
theorem rX1_grow {d : Nat} {a1 : Nat} {M : mm_M} {K : mm_M → Prop} (ha1 : a1 ∈ mm_Sts) (hG : mm_G M.2.2) (h : jX1_grow_2 d a1 M K 0) : mm_CV mX1_grow (d + 1) [.ref 21, .ref a1] M K := by
  show mm_W mX1_grow (d + 1) 0 0 0 [(0, .ref 21), (1, .ref a1)] [] mm_SH M 0 0 (mm_PV K)
  refine mm_iconst (x := 0) dX1_grow_0 rfl ?_
  refine mm_istore_n (lv' := [(2, .int 0), (0, .ref 21), (1, .ref a1)]) dX1_grow_1 rfl (by decide) rfl ?_
  exact mm_sub [1, 2, 0] rfl h
set_option maxRecDepth 100000 in
set_option maxHeartbeats 4000000 in
theorem lX1_grow_2 {d : Nat} {a1 : Nat} {M : mm_M} {K : mm_M → Prop} {y2 : Int32} (ha1 : a1 ∈ mm_Sts) (hG : mm_G M.2.2) (h : if 7 ≤ y2 then (K M) else (mm_CI mX9_isThere d [.ref a1, .int y2] M (fun z10 m10 => if z10 = 0 then (jX1_grow_2 d a1 m10 K (y2 + 1)) else (mm_CV mX1_tellHouse d [.ref 21, .ref a1, .int y2] m10 (fun m19 => ∃ q27 : Nat, m19.2.2 21 0 = some q27 ∧ q27 ∈ mm_Rls ∧ ∃ q34 : Nat, m19.2.2 21 0 = some q34 ∧ q34 ∈ mm_Rls ∧ ∃ q43 : Nat, m19.2.2 21 0 = some q43 ∧ q43 ∈ mm_Rls ∧ mm_CI mX5_value d [.ref 30, .ref (q27 + 5), .int (m19.1 (q34 + 6) (4).toNatClampNeg), .int (m19.1 (q43 + 7) (4).toNatClampNeg)] m19 (fun z51 m51 => vp_in y2 7 ∧ mm_CI mX1_bounded d [.int ((m51.1 (a1 + 1) (y2).toNatClampNeg) + z51)] m51 (fun z68 m68 => vp_in y2 7 ∧ jX1_grow_2 d a1 (mm_uI m68 (a1 + 1) (y2).toNatClampNeg z68) K (y2 + 1)))))))) : jX1_grow_2 d a1 M K y2 := by
  unfold jX1_grow_2
  refine mm_iload_n (j := 2) dX1_grow_2 rfl rfl ?_
  refine mm_bipush (x := 7) dX1_grow_3 rfl ?_
  refine mm_icmp_ge (tgt := 78) dX1_grow_5 (by decide) (fun hc => ?_) (fun hc => ?_)
  · rw [if_pos hc] at h
    exact mm_vret dX1_grow_78 rfl (Nat.le_refl 0) (Nat.le_refl 0) ⟨rfl, rfl, hG, h⟩
  · rw [if_neg hc] at h
    refine mm_aload_n (j := 1) dX1_grow_8 rfl rfl ?_
    refine mm_iload_n (j := 2) dX1_grow_9 rfl rfl ?_
    refine mm_kVI [.int y2] dX1_grow_10 kX1_55 rfl (sh_St ha1) (by decide) (by decide) h (fun z10 m10 hG h => ?_)
    refine mm_if_eq (tgt := 72) dX1_grow_13 (by decide) (fun hc => ?_) (fun hc => ?_)
    · rw [if_pos hc] at h
      refine mm_iinc (j := 2) (v := y2 + 1) (lv' := [(2, .int (y2 + 1)), (0, .ref 21), (1, .ref a1)]) dX1_grow_72 rfl rfl (by decide) rfl ?_
      refine mm_goto (tgt := 2) dX1_grow_75 (by decide) ?_
      exact mm_sub [1, 2, 0] rfl h
    · rw [if_neg hc] at h
      refine mm_aload_n (j := 0) dX1_grow_16 rfl rfl ?_
      refine mm_aload_n (j := 1) dX1_grow_17 rfl rfl ?_
      refine mm_iload_n (j := 2) dX1_grow_18 rfl rfl ?_
      refine mm_kVV [.ref a1, .int y2] dX1_grow_19 kX1_114 rfl sh_21 (by decide) (by decide) h (fun m19 hG h => ?_)
      refine mm_aload_n (j := 0) dX1_grow_22 rfl rfl ?_
      refine mm_getR (ci := 1) (N := 5) (r := 30) dX1_grow_23 fX1_21 sh_21 rfl (g_21_1 hG) ?_
      refine mm_aload_n (j := 0) dX1_grow_26 rfl rfl ?_
      obtain ⟨q27, he27, hq27, h⟩ := h
      refine mm_getR (ci := 1) (N := 5) (r := q27) dX1_grow_27 fX1_12 sh_21 rfl he27 ?_
      refine mm_getR (ci := 7) (N := 11) (r := q27 + 5) dX1_grow_30 fX1_89 (sh_Rl hq27) rfl (g_Rl_8 hG hq27) ?_
      refine mm_aload_n (j := 0) dX1_grow_33 rfl rfl ?_
      obtain ⟨q34, he34, hq34, h⟩ := h
      refine mm_getR (ci := 1) (N := 5) (r := q34) dX1_grow_34 fX1_12 sh_21 rfl he34 ?_
      refine mm_getR (ci := 7) (N := 11) (r := q34 + 6) dX1_grow_37 fX1_92 (sh_Rl hq34) rfl (g_Rl_9 hG hq34) ?_
      refine mm_iconst (x := 4) dX1_grow_40 rfl ?_
      refine mm_iaload (N := 5) dX1_grow_41 (sh_Rl_6 hq34) (by decide) ?_
      refine mm_aload_n (j := 0) dX1_grow_42 rfl rfl ?_
      obtain ⟨q43, he43, hq43, h⟩ := h
      refine mm_getR (ci := 1) (N := 5) (r := q43) dX1_grow_43 fX1_12 sh_21 rfl he43 ?_
      refine mm_getR (ci := 7) (N := 11) (r := q43 + 7) dX1_grow_46 fX1_95 (sh_Rl hq43) rfl (g_Rl_10 hG hq43) ?_
      refine mm_iconst (x := 4) dX1_grow_49 rfl ?_
      refine mm_iaload (N := 5) dX1_grow_50 (sh_Rl_7 hq43) (by decide) ?_
      refine mm_kVI [.ref (q27 + 5), .int (m19.1 (q34 + 6) (4).toNatClampNeg), .int (m19.1 (q43 + 7) (4).toNatClampNeg)] dX1_grow_51 kX1_98 rfl sh_30 (by decide) (by decide) h (fun z51 m51 hG h => ?_)
      refine mm_istore_n (lv' := [(3, .int z51), (0, .ref 21), (1, .ref a1), (2, .int y2)]) dX1_grow_54 rfl (by decide) rfl ?_
      refine mm_aload_n (j := 2) dX1_grow_55 rfl rfl ?_
      refine mm_getR (ci := 9) (N := 7) (r := a1 + 1) dX1_grow_56 fX1_79 (sh_St ha1) rfl (g_St_3 hG ha1) ?_
      refine mm_iload_n (j := 3) dX1_grow_59 rfl rfl ?_
      refine mm_aload_n (j := 2) dX1_grow_60 rfl rfl ?_
      refine mm_getR (ci := 9) (N := 7) (r := a1 + 1) dX1_grow_61 fX1_79 (sh_St ha1) rfl (g_St_3 hG ha1) ?_
      refine mm_iload_n (j := 3) dX1_grow_64 rfl rfl ?_
      obtain ⟨hi65, h⟩ := h
      refine mm_iaload (N := 7) dX1_grow_65 (sh_St_1 ha1) hi65 ?_
      refine mm_iload_n (j := 0) dX1_grow_66 rfl rfl ?_
      refine mm_iadd dX1_grow_67 ?_
      refine mm_kSI [.int ((m51.1 (a1 + 1) (y2).toNatClampNeg) + z51)] dX1_grow_68 kX1_102 rfl (by decide) (by decide) h (fun z68 m68 hG h => ?_)
      obtain ⟨hi71, h⟩ := h
      refine mm_iastore (N := 7) dX1_grow_71 (sh_St_1 ha1) hi71 ?_
      refine mm_iinc (j := 3) (v := y2 + 1) (lv' := [(2, .int (y2 + 1)), (3, .int z51), (0, .ref 21), (1, .ref a1)]) dX1_grow_72 rfl rfl (by decide) rfl ?_
      refine mm_goto (tgt := 2) dX1_grow_75 (by decide) ?_
      exact mm_sub [2, 3, 0] rfl h
set_option maxRecDepth 100000 in
set_option maxHeartbeats 4000000 in
theorem rX1_tellLoaf {d : Nat} {a1 : Nat} {x2 : Int32} {x3 : Int32} {M : mm_M} {K : mm_M → Prop} (ha1 : a1 ∈ mm_Sts) (hG : mm_G M.2.2) (h : if x2 < 0 then (K (mm_uI M 31 (13).toNatClampNeg (M.1 a1 0))) else (if 7 ≤ x2 then (K (mm_uI M 31 (13).toNatClampNeg (M.1 a1 0))) else (if x3 < 0 then (K (mm_uI M 31 (13).toNatClampNeg (M.1 a1 0))) else (if 7 ≤ x3 then (K (mm_uI M 31 (13).toNatClampNeg (M.1 a1 0))) else (vp_in x2 7 ∧ ∃ q58 : Nat, (mm_uI (mm_uI M 31 (13).toNatClampNeg (M.1 a1 0)) 31 (2).toNatClampNeg ((mm_uI M 31 (13).toNatClampNeg (M.1 a1 0)).1 (a1 + 1) (x2).toNatClampNeg)).2.2 21 0 = some q58 ∧ q58 ∈ mm_Rls ∧ vp_in x2 7 ∧ vp_in x3 7 ∧ vp_in ((8 * x3) + x2) 64 ∧ K (mm_uI (mm_uI (mm_uI (mm_uI (mm_uI M 31 (13).toNatClampNeg (M.1 a1 0)) 31 (2).toNatClampNeg ((mm_uI M 31 (13).toNatClampNeg (M.1 a1 0)).1 (a1 + 1) (x2).toNatClampNeg)) 31 (3).toNatClampNeg ((mm_uI (mm_uI M 31 (13).toNatClampNeg (M.1 a1 0)) 31 (2).toNatClampNeg ((mm_uI M 31 (13).toNatClampNeg (M.1 a1 0)).1 (a1 + 1) (x2).toNatClampNeg)).1 (q58 + 3) (x2).toNatClampNeg)) 31 (14).toNatClampNeg ((mm_uI (mm_uI (mm_uI M 31 (13).toNatClampNeg (M.1 a1 0)) 31 (2).toNatClampNeg ((mm_uI M 31 (13).toNatClampNeg (M.1 a1 0)).1 (a1 + 1) (x2).toNatClampNeg)) 31 (3).toNatClampNeg ((mm_uI (mm_uI M 31 (13).toNatClampNeg (M.1 a1 0)) 31 (2).toNatClampNeg ((mm_uI M 31 (13).toNatClampNeg (M.1 a1 0)).1 (a1 + 1) (x2).toNatClampNeg)).1 (q58 + 3) (x2).toNatClampNeg)).1 (a1 + 2) (x3).toNatClampNeg)) 31 (6).toNatClampNeg ((mm_uI (mm_uI (mm_uI (mm_uI M 31 (13).toNatClampNeg (M.1 a1 0)) 31 (2).toNatClampNeg ((mm_uI M 31 (13).toNatClampNeg (M.1 a1 0)).1 (a1 + 1) (x2).toNatClampNeg)) 31 (3).toNatClampNeg ((mm_uI (mm_uI M 31 (13).toNatClampNeg (M.1 a1 0)) 31 (2).toNatClampNeg ((mm_uI M 31 (13).toNatClampNeg (M.1 a1 0)).1 (a1 + 1) (x2).toNatClampNeg)).1 (q58 + 3) (x2).toNatClampNeg)) 31 (14).toNatClampNeg ((mm_uI (mm_uI (mm_uI M 31 (13).toNatClampNeg (M.1 a1 0)) 31 (2).toNatClampNeg ((mm_uI M 31 (13).toNatClampNeg (M.1 a1 0)).1 (a1 + 1) (x2).toNatClampNeg)) 31 (3).toNatClampNeg ((mm_uI (mm_uI M 31 (13).toNatClampNeg (M.1 a1 0)) 31 (2).toNatClampNeg ((mm_uI M 31 (13).toNatClampNeg (M.1 a1 0)).1 (a1 + 1) (x2).toNatClampNeg)).1 (q58 + 3) (x2).toNatClampNeg)).1 (a1 + 2) (x3).toNatClampNeg)).1 (a1 + 3) ((8 * x3) + x2).toNatClampNeg))))))) : mm_CV mX1_tellLoaf d [.ref 21, .ref a1, .int x2, .int x3] M K := by
  show mm_W mX1_tellLoaf d 0 0 0 [(0, .ref 21), (1, .ref a1), (2, .int x2), (3, .int x3)] [] mm_SH M 0 0 (mm_PV K)
  refine mm_aload_n (j := 0) dX1_tellLoaf_0 rfl rfl ?_
  refine mm_getR (ci := 1) (N := 5) (r := 30) dX1_tellLoaf_1 fX1_21 sh_21 rfl (g_21_1 hG) ?_
  refine mm_getR (ci := 5) (N := 4) (r := 31) dX1_tellLoaf_4 fX1_122 sh_30 rfl (g_30_0 hG) ?_
  refine mm_bipush (x := 13) dX1_tellLoaf_7 rfl ?_
  refine mm_aload_n (j := 1) dX1_tellLoaf_9 rfl rfl ?_
  refine mm_getI (ci := 9) (N := 7) dX1_tellLoaf_10 fX1_46 (sh_St ha1) rfl ?_
  refine mm_iastore (N := 24) dX1_tellLoaf_13 sh_31 (by decide) ?_
  refine mm_iload_n (j := 2) dX1_tellLoaf_14 rfl rfl ?_
  refine mm_if_lt (tgt := 104) dX1_tellLoaf_15 (by decide) (fun hc => ?_) (fun hc => ?_)
  · rw [if_pos hc] at h
    exact mm_vret dX1_tellLoaf_104 rfl (Nat.le_refl 0) (Nat.le_refl 0) ⟨rfl, rfl, hG, h⟩
  · rw [if_neg hc] at h
    refine mm_iload_n (j := 2) dX1_tellLoaf_18 rfl rfl ?_
    refine mm_bipush (x := 7) dX1_tellLoaf_19 rfl ?_
    refine mm_icmp_ge (tgt := 104) dX1_tellLoaf_21 (by decide) (fun hc => ?_) (fun hc => ?_)
    · rw [if_pos hc] at h
      exact mm_vret dX1_tellLoaf_104 rfl (Nat.le_refl 0) (Nat.le_refl 0) ⟨rfl, rfl, hG, h⟩
    · rw [if_neg hc] at h
      refine mm_iload_n (j := 3) dX1_tellLoaf_24 rfl rfl ?_
      refine mm_if_lt (tgt := 104) dX1_tellLoaf_25 (by decide) (fun hc => ?_) (fun hc => ?_)
      · rw [if_pos hc] at h
        exact mm_vret dX1_tellLoaf_104 rfl (Nat.le_refl 0) (Nat.le_refl 0) ⟨rfl, rfl, hG, h⟩
      · rw [if_neg hc] at h
        refine mm_iload_n (j := 3) dX1_tellLoaf_28 rfl rfl ?_
        refine mm_bipush (x := 7) dX1_tellLoaf_29 rfl ?_
        refine mm_icmp_ge (tgt := 104) dX1_tellLoaf_31 (by decide) (fun hc => ?_) (fun hc => ?_)
        · rw [if_pos hc] at h
          exact mm_vret dX1_tellLoaf_104 rfl (Nat.le_refl 0) (Nat.le_refl 0) ⟨rfl, rfl, hG, h⟩
        · rw [if_neg hc] at h
          refine mm_aload_n (j := 0) dX1_tellLoaf_34 rfl rfl ?_
          refine mm_getR (ci := 1) (N := 5) (r := 30) dX1_tellLoaf_35 fX1_21 sh_21 rfl (g_21_1 hG) ?_
          refine mm_getR (ci := 5) (N := 4) (r := 31) dX1_tellLoaf_38 fX1_122 sh_30 rfl (g_30_0 hG) ?_
          refine mm_iconst (x := 2) dX1_tellLoaf_41 rfl ?_
          refine mm_aload_n (j := 1) dX1_tellLoaf_42 rfl rfl ?_
          refine mm_getR (ci := 9) (N := 7) (r := a1 + 1) dX1_tellLoaf_43 fX1_79 (sh_St ha1) rfl (g_St_3 hG ha1) ?_
          refine mm_iload_n (j := 2) dX1_tellLoaf_46 rfl rfl ?_
          obtain ⟨hi47, h⟩ := h
          refine mm_iaload (N := 7) dX1_tellLoaf_47 (sh_St_1 ha1) hi47 ?_
          refine mm_iastore (N := 24) dX1_tellLoaf_48 sh_31 (by decide) ?_
          refine mm_aload_n (j := 0) dX1_tellLoaf_49 rfl rfl ?_
          refine mm_getR (ci := 1) (N := 5) (r := 30) dX1_tellLoaf_50 fX1_21 sh_21 rfl (g_21_1 hG) ?_
          refine mm_getR (ci := 5) (N := 4) (r := 31) dX1_tellLoaf_53 fX1_122 sh_30 rfl (g_30_0 hG) ?_
          refine mm_iconst (x := 3) dX1_tellLoaf_56 rfl ?_
          refine mm_aload_n (j := 0) dX1_tellLoaf_57 rfl rfl ?_
          obtain ⟨q58, he58, hq58, h⟩ := h
          refine mm_getR (ci := 1) (N := 5) (r := q58) dX1_tellLoaf_58 fX1_12 sh_21 rfl he58 ?_
          refine mm_getR (ci := 7) (N := 11) (r := q58 + 3) dX1_tellLoaf_61 fX1_130 (sh_Rl hq58) rfl (g_Rl_6 hG hq58) ?_
          refine mm_iload_n (j := 2) dX1_tellLoaf_64 rfl rfl ?_
          obtain ⟨hi65, h⟩ := h
          refine mm_iaload (N := 7) dX1_tellLoaf_65 (sh_Rl_3 hq58) hi65 ?_
          refine mm_iastore (N := 24) dX1_tellLoaf_66 sh_31 (by decide) ?_
          refine mm_aload_n (j := 0) dX1_tellLoaf_67 rfl rfl ?_
          refine mm_getR (ci := 1) (N := 5) (r := 30) dX1_tellLoaf_68 fX1_21 sh_21 rfl (g_21_1 hG) ?_
          refine mm_getR (ci := 5) (N := 4) (r := 31) dX1_tellLoaf_71 fX1_122 sh_30 rfl (g_30_0 hG) ?_
          refine mm_bipush (x := 14) dX1_tellLoaf_74 rfl ?_
          refine mm_aload_n (j := 1) dX1_tellLoaf_76 rfl rfl ?_
          refine mm_getR (ci := 9) (N := 7) (r := a1 + 2) dX1_tellLoaf_77 fX1_63 (sh_St ha1) rfl (g_St_4 hG ha1) ?_
          refine mm_iload_n (j := 3) dX1_tellLoaf_80 rfl rfl ?_
          obtain ⟨hi81, h⟩ := h
          refine mm_iaload (N := 7) dX1_tellLoaf_81 (sh_St_2 ha1) hi81 ?_
          refine mm_iastore (N := 24) dX1_tellLoaf_82 sh_31 (by decide) ?_
          refine mm_aload_n (j := 0) dX1_tellLoaf_83 rfl rfl ?_
          refine mm_getR (ci := 1) (N := 5) (r := 30) dX1_tellLoaf_84 fX1_21 sh_21 rfl (g_21_1 hG) ?_
          refine mm_getR (ci := 5) (N := 4) (r := 31) dX1_tellLoaf_87 fX1_122 sh_30 rfl (g_30_0 hG) ?_
          refine mm_bipush (x := 6) dX1_tellLoaf_90 rfl ?_
          refine mm_aload_n (j := 1) dX1_tellLoaf_92 rfl rfl ?_
          refine mm_getR (ci := 9) (N := 7) (r := a1 + 3) dX1_tellLoaf_93 fX1_106 (sh_St ha1) rfl (g_St_5 hG ha1) ?_
          refine mm_bipush (x := 8) dX1_tellLoaf_96 rfl ?_
          refine mm_iload_n (j := 3) dX1_tellLoaf_98 rfl rfl ?_
          refine mm_imul dX1_tellLoaf_99 ?_
          refine mm_iload_n (j := 2) dX1_tellLoaf_100 rfl rfl ?_
          refine mm_iadd dX1_tellLoaf_101 ?_
          obtain ⟨hi102, h⟩ := h
          refine mm_iaload (N := 64) dX1_tellLoaf_102 (sh_St_3 ha1) hi102 ?_
          refine mm_iastore (N := 24) dX1_tellLoaf_103 sh_31 (by decide) ?_
          exact mm_vret dX1_tellLoaf_104 rfl (Nat.le_refl 0) (Nat.le_refl 0) ⟨rfl, rfl, hG, h⟩
set_option maxRecDepth 100000 in
set_option maxHeartbeats 4000000 in
theorem rX1_tellHouse {d : Nat} {a1 : Nat} {x2 : Int32} {M : mm_M} {K : mm_M → Prop} (ha1 : a1 ∈ mm_Sts) (hG : mm_G M.2.2) (h : if x2 < 0 then (K (mm_uI M 31 (13).toNatClampNeg (M.1 a1 0))) else (if 7 ≤ x2 then (K (mm_uI M 31 (13).toNatClampNeg (M.1 a1 0))) else (vp_in x2 7 ∧ ∃ q48 : Nat, (mm_uI (mm_uI M 31 (13).toNatClampNeg (M.1 a1 0)) 31 (2).toNatClampNeg ((mm_uI M 31 (13).toNatClampNeg (M.1 a1 0)).1 (a1 + 1) (x2).toNatClampNeg)).2.2 21 0 = some q48 ∧ q48 ∈ mm_Rls ∧ vp_in x2 7 ∧ vp_in x2 7 ∧ K (mm_uI (mm_uI (mm_uI (mm_uI M 31 (13).toNatClampNeg (M.1 a1 0)) 31 (2).toNatClampNeg ((mm_uI M 31 (13).toNatClampNeg (M.1 a1 0)).1 (a1 + 1) (x2).toNatClampNeg)) 31 (3).toNatClampNeg ((mm_uI (mm_uI M 31 (13).toNatClampNeg (M.1 a1 0)) 31 (2).toNatClampNeg ((mm_uI M 31 (13).toNatClampNeg (M.1 a1 0)).1 (a1 + 1) (x2).toNatClampNeg)).1 (q48 + 3) (x2).toNatClampNeg)) 31 (14).toNatClampNeg ((mm_uI (mm_uI (mm_uI M 31 (13).toNatClampNeg (M.1 a1 0)) 31 (2).toNatClampNeg ((mm_uI M 31 (13).toNatClampNeg (M.1 a1 0)).1 (a1 + 1) (x2).toNatClampNeg)) 31 (3).toNatClampNeg ((mm_uI (mm_uI M 31 (13).toNatClampNeg (M.1 a1 0)) 31 (2).toNatClampNeg ((mm_uI M 31 (13).toNatClampNeg (M.1 a1 0)).1 (a1 + 1) (x2).toNatClampNeg)).1 (q48 + 3) (x2).toNatClampNeg)).1 (a1 + 2) (x2).toNatClampNeg))))) : mm_CV mX1_tellHouse d [.ref 21, .ref a1, .int x2] M K := by
  show mm_W mX1_tellHouse d 0 0 0 [(0, .ref 21), (1, .ref a1), (2, .int x2)] [] mm_SH M 0 0 (mm_PV K)
  refine mm_aload_n (j := 0) dX1_tellHouse_0 rfl rfl ?_
  refine mm_getR (ci := 1) (N := 5) (r := 30) dX1_tellHouse_1 fX1_21 sh_21 rfl (g_21_1 hG) ?_
  refine mm_getR (ci := 5) (N := 4) (r := 31) dX1_tellHouse_4 fX1_122 sh_30 rfl (g_30_0 hG) ?_
  refine mm_bipush (x := 13) dX1_tellHouse_7 rfl ?_
  refine mm_aload_n (j := 1) dX1_tellHouse_9 rfl rfl ?_
  refine mm_getI (ci := 9) (N := 7) dX1_tellHouse_10 fX1_46 (sh_St ha1) rfl ?_
  refine mm_iastore (N := 24) dX1_tellHouse_13 sh_31 (by decide) ?_
  refine mm_iload_n (j := 2) dX1_tellHouse_14 rfl rfl ?_
  refine mm_if_lt (tgt := 73) dX1_tellHouse_15 (by decide) (fun hc => ?_) (fun hc => ?_)
  · rw [if_pos hc] at h
    exact mm_vret dX1_tellHouse_73 rfl (Nat.le_refl 0) (Nat.le_refl 0) ⟨rfl, rfl, hG, h⟩
  · rw [if_neg hc] at h
    refine mm_iload_n (j := 2) dX1_tellHouse_18 rfl rfl ?_
    refine mm_bipush (x := 7) dX1_tellHouse_19 rfl ?_
    refine mm_icmp_ge (tgt := 73) dX1_tellHouse_21 (by decide) (fun hc => ?_) (fun hc => ?_)
    · rw [if_pos hc] at h
      exact mm_vret dX1_tellHouse_73 rfl (Nat.le_refl 0) (Nat.le_refl 0) ⟨rfl, rfl, hG, h⟩
    · rw [if_neg hc] at h
      refine mm_aload_n (j := 0) dX1_tellHouse_24 rfl rfl ?_
      refine mm_getR (ci := 1) (N := 5) (r := 30) dX1_tellHouse_25 fX1_21 sh_21 rfl (g_21_1 hG) ?_
      refine mm_getR (ci := 5) (N := 4) (r := 31) dX1_tellHouse_28 fX1_122 sh_30 rfl (g_30_0 hG) ?_
      refine mm_iconst (x := 2) dX1_tellHouse_31 rfl ?_
      refine mm_aload_n (j := 1) dX1_tellHouse_32 rfl rfl ?_
      refine mm_getR (ci := 9) (N := 7) (r := a1 + 1) dX1_tellHouse_33 fX1_79 (sh_St ha1) rfl (g_St_3 hG ha1) ?_
      refine mm_iload_n (j := 2) dX1_tellHouse_36 rfl rfl ?_
      obtain ⟨hi37, h⟩ := h
      refine mm_iaload (N := 7) dX1_tellHouse_37 (sh_St_1 ha1) hi37 ?_
      refine mm_iastore (N := 24) dX1_tellHouse_38 sh_31 (by decide) ?_
      refine mm_aload_n (j := 0) dX1_tellHouse_39 rfl rfl ?_
      refine mm_getR (ci := 1) (N := 5) (r := 30) dX1_tellHouse_40 fX1_21 sh_21 rfl (g_21_1 hG) ?_
      refine mm_getR (ci := 5) (N := 4) (r := 31) dX1_tellHouse_43 fX1_122 sh_30 rfl (g_30_0 hG) ?_
      refine mm_iconst (x := 3) dX1_tellHouse_46 rfl ?_
      refine mm_aload_n (j := 0) dX1_tellHouse_47 rfl rfl ?_
      obtain ⟨q48, he48, hq48, h⟩ := h
      refine mm_getR (ci := 1) (N := 5) (r := q48) dX1_tellHouse_48 fX1_12 sh_21 rfl he48 ?_
      refine mm_getR (ci := 7) (N := 11) (r := q48 + 3) dX1_tellHouse_51 fX1_130 (sh_Rl hq48) rfl (g_Rl_6 hG hq48) ?_
      refine mm_iload_n (j := 2) dX1_tellHouse_54 rfl rfl ?_
      obtain ⟨hi55, h⟩ := h
      refine mm_iaload (N := 7) dX1_tellHouse_55 (sh_Rl_3 hq48) hi55 ?_
      refine mm_iastore (N := 24) dX1_tellHouse_56 sh_31 (by decide) ?_
      refine mm_aload_n (j := 0) dX1_tellHouse_57 rfl rfl ?_
      refine mm_getR (ci := 1) (N := 5) (r := 30) dX1_tellHouse_58 fX1_21 sh_21 rfl (g_21_1 hG) ?_
      refine mm_getR (ci := 5) (N := 4) (r := 31) dX1_tellHouse_61 fX1_122 sh_30 rfl (g_30_0 hG) ?_
      refine mm_bipush (x := 14) dX1_tellHouse_64 rfl ?_
      refine mm_aload_n (j := 1) dX1_tellHouse_66 rfl rfl ?_
      refine mm_getR (ci := 9) (N := 7) (r := a1 + 2) dX1_tellHouse_67 fX1_63 (sh_St ha1) rfl (g_St_4 hG ha1) ?_
      refine mm_iload_n (j := 2) dX1_tellHouse_70 rfl rfl ?_
      obtain ⟨hi71, h⟩ := h
      refine mm_iaload (N := 7) dX1_tellHouse_71 (sh_St_2 ha1) hi71 ?_
      refine mm_iastore (N := 24) dX1_tellHouse_72 sh_31 (by decide) ?_
      exact mm_vret dX1_tellHouse_73 rfl (Nat.le_refl 0) (Nat.le_refl 0) ⟨rfl, rfl, hG, h⟩
set_option maxRecDepth 100000 in
set_option maxHeartbeats 4000000 in
theorem rX1_bounded {d : Nat} {x0 : Int32} {M : mm_M} {K : Int32 → mm_M → Prop} (hG : mm_G M.2.2) (h : if 0 ≤ x0 then (if x0 ≤ 99 then (K x0 M) else (K 99 M)) else (K 0 M)) : mm_CI mX1_bounded d [.int x0] M K := by
  show mm_W mX1_bounded d 0 0 0 [(0, .int x0)] [] mm_SH M 0 0 (mm_PI K)
  refine mm_iload_n (j := 0) dX1_bounded_0 rfl rfl ?_
  refine mm_if_ge (tgt := 8) dX1_bounded_1 (by decide) (fun hc => ?_) (fun hc => ?_)
  · rw [if_pos hc] at h
    refine mm_iload_n (j := 0) dX1_bounded_8 rfl rfl ?_
    refine mm_bipush (x := 99) dX1_bounded_9 rfl ?_
    refine mm_icmp_le (tgt := 19) dX1_bounded_11 (by decide) (fun hc => ?_) (fun hc => ?_)
    · rw [if_pos hc] at h
      refine mm_iload_n (j := 0) dX1_bounded_19 rfl rfl ?_
      exact mm_iret dX1_bounded_20 rfl (Nat.le_refl 0) (Nat.le_refl 0) ⟨_, rfl, rfl, hG, h⟩
    · rw [if_neg hc] at h
      refine mm_bipush (x := 99) dX1_bounded_14 rfl ?_
      refine mm_goto (tgt := 20) dX1_bounded_16 (by decide) ?_
      exact mm_iret dX1_bounded_20 rfl (Nat.le_refl 0) (Nat.le_refl 0) ⟨_, rfl, rfl, hG, h⟩
  · rw [if_neg hc] at h
    refine mm_iconst (x := 0) dX1_bounded_4 rfl ?_
    refine mm_goto (tgt := 20) dX1_bounded_5 (by decide) ?_
    exact mm_iret dX1_bounded_20 rfl (Nat.le_refl 0) (Nat.le_refl 0) ⟨_, rfl, rfl, hG, h⟩
