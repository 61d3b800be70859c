def jX12_keeps_15 (d : Nat) (M : mm_M) (K : mm_M → Prop) (y1 : Int32) : Prop := mm_W mX12_keeps d 0 0 15 [(0, .ref 164), (1, .int y1)] [] mm_SH M 0 0 (mm_PV K)
set_option maxRecDepth 100000 in
set_option maxHeartbeats 4000000 in
theorem rX12_keeps {d : Nat} {M : mm_M} {K : mm_M → Prop} (hG : mm_G M.2.2) (h : jX12_keeps_15 d (mm_uI M 164 80 (((M.1 164 80) + 1) - ((M.1 164 80) + 1) / 20 * 20)) K 0) : mm_CV mX12_keeps d [.ref 164] M K := by
  show mm_W mX12_keeps d 0 0 0 [(0, .ref 164)] [] mm_SH M 0 0 (mm_PV K)
  refine mm_aload_n (pc := 0) (j := 0) dX12_keeps_0 rfl rfl ?_
  refine mm_aload_n (pc := 1) (j := 0) dX12_keeps_1 rfl rfl ?_
  refine mm_getI (pc := 2) (ci := 12) (N := 116) dX12_keeps_2 fX12_622 sh_164 rfl ?_
  refine mm_iconst (pc := 5) (x := 1) dX12_keeps_5 rfl ?_
  refine mm_iadd (pc := 6) dX12_keeps_6 ?_
  refine mm_bipush (pc := 7) (x := 20) dX12_keeps_7 rfl ?_
  refine mm_irem (pc := 9) dX12_keeps_9 (by decide) ?_
  refine mm_putI (pc := 10) (ci := 12) (N := 116) dX12_keeps_10 fX12_622 sh_164 (by decide +kernel) rfl rfl rfl ?_
  refine mm_iconst (pc := 13) (x := 0) dX12_keeps_13 rfl ?_
  refine mm_istore_n (pc := 14) (lv' := [(1, .int 0), (0, .ref 164)]) dX12_keeps_14 rfl (by decide) rfl ?_
  exact mm_sub [1, 0] rfl h
set_option maxRecDepth 100000 in
set_option maxHeartbeats 4000000 in
theorem lX12_keeps_15 {d : Nat} {M : mm_M} {K : mm_M → Prop} {y1 : Int32} (hG : mm_G M.2.2) (h : if 204 ≤ y1 then (if 20 ≤ (M.1 164 79) then (K M) else (K (mm_uI M 164 79 ((M.1 164 79) + 1)))) else (vp_in y1 204 ∧ vp_in ((204 * (M.1 164 80)) + y1) 4080 ∧ jX12_keeps_15 d (mm_uI M 216 ((204 * (M.1 164 80)) + y1).toNatClampNeg (M.1 199 y1.toNatClampNeg)) K (y1 + 1))) : jX12_keeps_15 d  M K y1 := by
  unfold jX12_keeps_15
  refine mm_iload_n (pc := 15) (j := 1) dX12_keeps_15 rfl rfl ?_
  refine mm_sipush (pc := 16) (x := 204) dX12_keeps_16 rfl ?_
  refine mm_icmp_ge (pc := 19) (tgt := 49) dX12_keeps_19 (by decide) (fun hc => ?_) (fun hc => ?_)
  · have h := mm_ift hc h
    refine mm_aload_n (pc := 49) (j := 0) dX12_keeps_49 rfl rfl ?_
    refine mm_getI (pc := 50) (ci := 12) (N := 116) dX12_keeps_50 fX12_406 sh_164 rfl ?_
    refine mm_bipush (pc := 53) (x := 20) dX12_keeps_53 rfl ?_
    refine mm_icmp_ge (pc := 55) (tgt := 68) dX12_keeps_55 (by decide) (fun hc => ?_) (fun hc => ?_)
    · have h := mm_ift hc h
      exact mm_vret (pc := 68) dX12_keeps_68 rfl (Nat.le_refl 0) (Nat.le_refl 0) ⟨rfl, rfl, hG, h⟩
    · have h := mm_iff hc h
      refine mm_aload_n (pc := 58) (j := 0) dX12_keeps_58 rfl rfl ?_
      refine mm_dup (pc := 59) dX12_keeps_59 rfl ?_
      refine mm_getI (pc := 60) (ci := 12) (N := 116) dX12_keeps_60 fX12_406 sh_164 rfl ?_
      refine mm_iconst (pc := 63) (x := 1) dX12_keeps_63 rfl ?_
      refine mm_iadd (pc := 64) dX12_keeps_64 ?_
      refine mm_putI (pc := 65) (ci := 12) (N := 116) dX12_keeps_65 fX12_406 sh_164 (by decide +kernel) rfl rfl rfl ?_
      exact mm_vret (pc := 68) dX12_keeps_68 rfl (Nat.le_refl 0) (Nat.le_refl 0) ⟨rfl, rfl, hG, h⟩
  · have h := mm_iff hc h
    refine mm_aload_n (pc := 22) (j := 0) dX12_keeps_22 rfl rfl ?_
    refine mm_getR (pc := 23) (ci := 12) (N := 116) (r := 216) dX12_keeps_23 fX12_170 sh_164 rfl (g_164_78 hG) ?_
    refine mm_sipush (pc := 26) (x := 204) dX12_keeps_26 rfl ?_
    refine mm_aload_n (pc := 29) (j := 0) dX12_keeps_29 rfl rfl ?_
    refine mm_getI (pc := 30) (ci := 12) (N := 116) dX12_keeps_30 fX12_622 sh_164 rfl ?_
    refine mm_imul (pc := 33) dX12_keeps_33 ?_
    refine mm_iload_n (pc := 34) (j := 1) dX12_keeps_34 rfl rfl ?_
    refine mm_iadd (pc := 35) dX12_keeps_35 ?_
    refine mm_aload_n (pc := 36) (j := 0) dX12_keeps_36 rfl rfl ?_
    refine mm_getR (pc := 37) (ci := 12) (N := 116) (r := 199) dX12_keeps_37 fX12_118 sh_164 rfl (g_164_50 hG) ?_
    refine mm_iload_n (pc := 40) (j := 1) dX12_keeps_40 rfl rfl ?_
    obtain ⟨hi41, h⟩ := h
    refine mm_iaload (pc := 41) (N := 204) dX12_keeps_41 sh_199 hi41 ?_
    obtain ⟨hi42, h⟩ := h
    refine mm_iastore (pc := 42) (N := 4080) dX12_keeps_42 sh_216 hi42 ?_
    refine mm_iinc (pc := 43) (j := 1) (v := y1 + 1) (lv' := [(1, .int (y1 + 1)), (0, .ref 164)]) dX12_keeps_43 rfl rfl (by decide) rfl ?_
    refine mm_goto (pc := 46) (tgt := 15) dX12_keeps_46 (by decide) ?_
    exact mm_sub [1, 0] rfl h
def jX12_undo_21 (d : Nat) (M : mm_M) (K : Int32 → mm_M → Prop) (y1 : Int32) : Prop := mm_W mX12_undo d 0 0 21 [(0, .ref 164), (1, .int y1)] [] mm_SH M 0 0 (mm_PI K)
set_option maxRecDepth 100000 in
set_option maxHeartbeats 4000000 in
theorem rX12_undo {d : Nat} {M : mm_M} {K : Int32 → mm_M → Prop} (hG : mm_G M.2.2) (h : if (M.1 164 79) = 0 then (K 0 (mm_uI M 166 (4 : Int32).toNatClampNeg ((M.1 166 (4 : Int32).toNatClampNeg) + 1))) else (jX12_undo_21 d M K 0)) : mm_CI mX12_undo d [.ref 164] M K := by
  show mm_W mX12_undo d 0 0 0 [(0, .ref 164)] [] mm_SH M 0 0 (mm_PI K)
  refine mm_aload_n (pc := 0) (j := 0) dX12_undo_0 rfl rfl ?_
  refine mm_getI (pc := 1) (ci := 12) (N := 116) dX12_undo_1 fX12_406 sh_164 rfl ?_
  refine mm_if_ne (pc := 4) (tgt := 19) dX12_undo_4 (by decide) (fun hc => ?_) (fun hc => ?_)
  · have h := mm_iff hc h
    refine mm_iconst (pc := 19) (x := 0) dX12_undo_19 rfl ?_
    refine mm_istore_n (pc := 20) (lv' := [(1, .int 0), (0, .ref 164)]) dX12_undo_20 rfl (by decide) rfl ?_
    exact mm_sub [1, 0] rfl h
  · have h := mm_ift hc h
    refine mm_aload_n (pc := 7) (j := 0) dX12_undo_7 rfl rfl ?_
    refine mm_getR (pc := 8) (ci := 12) (N := 116) (r := 166) dX12_undo_8 fX12_17 sh_164 rfl (g_164_9 hG) ?_
    refine mm_iconst (pc := 11) (x := 4) dX12_undo_11 rfl ?_
    refine mm_dup2 (pc := 12) dX12_undo_12 rfl rfl ?_
    refine mm_iaload (pc := 13) (N := 6) dX12_undo_13 sh_166 (mm_vin (k := 4) rfl (by decide) (by decide)) ?_
    refine mm_iconst (pc := 14) (x := 1) dX12_undo_14 rfl ?_
    refine mm_iadd (pc := 15) dX12_undo_15 ?_
    refine mm_iastore (pc := 16) (N := 6) dX12_undo_16 sh_166 (mm_vin (k := 4) rfl (by decide) (by decide)) ?_
    refine mm_iconst (pc := 17) (x := 0) dX12_undo_17 rfl ?_
    exact mm_zret (pc := 18) dX12_undo_18 rfl rfl (Nat.le_refl 0) (Nat.le_refl 0) ⟨_, rfl, rfl, hG, h⟩
set_option maxRecDepth 100000 in
set_option maxHeartbeats 4000000 in
theorem lX12_undo_21 {d : Nat} {M : mm_M} {K : Int32 → mm_M → Prop} {y1 : Int32} (hG : mm_G M.2.2) (h : if 204 ≤ y1 then (K 1 (mm_uI (mm_uI M 164 80 ((((M.1 164 80) + 20) - 1) - (((M.1 164 80) + 20) - 1) / 20 * 20)) 164 79 (((mm_uI M 164 80 ((((M.1 164 80) + 20) - 1) - (((M.1 164 80) + 20) - 1) / 20 * 20)).1 164 79) - 1))) else (vp_in ((204 * (M.1 164 80)) + y1) 4080 ∧ vp_in y1 204 ∧ jX12_undo_21 d (mm_uI M 199 y1.toNatClampNeg (M.1 216 ((204 * (M.1 164 80)) + y1).toNatClampNeg)) K (y1 + 1))) : jX12_undo_21 d  M K y1 := by
  unfold jX12_undo_21
  refine mm_iload_n (pc := 21) (j := 1) dX12_undo_21 rfl rfl ?_
  refine mm_sipush (pc := 22) (x := 204) dX12_undo_22 rfl ?_
  refine mm_icmp_ge (pc := 25) (tgt := 55) dX12_undo_25 (by decide) (fun hc => ?_) (fun hc => ?_)
  · have h := mm_ift hc h
    refine mm_aload_n (pc := 55) (j := 0) dX12_undo_55 rfl rfl ?_
    refine mm_aload_n (pc := 56) (j := 0) dX12_undo_56 rfl rfl ?_
    refine mm_getI (pc := 57) (ci := 12) (N := 116) dX12_undo_57 fX12_622 sh_164 rfl ?_
    refine mm_bipush (pc := 60) (x := 20) dX12_undo_60 rfl ?_
    refine mm_iadd (pc := 62) dX12_undo_62 ?_
    refine mm_iconst (pc := 63) (x := 1) dX12_undo_63 rfl ?_
    refine mm_isub (pc := 64) dX12_undo_64 ?_
    refine mm_bipush (pc := 65) (x := 20) dX12_undo_65 rfl ?_
    refine mm_irem (pc := 67) dX12_undo_67 (by decide) ?_
    refine mm_putI (pc := 68) (ci := 12) (N := 116) dX12_undo_68 fX12_622 sh_164 (by decide +kernel) rfl rfl rfl ?_
    refine mm_aload_n (pc := 71) (j := 0) dX12_undo_71 rfl rfl ?_
    refine mm_dup (pc := 72) dX12_undo_72 rfl ?_
    refine mm_getI (pc := 73) (ci := 12) (N := 116) dX12_undo_73 fX12_406 sh_164 rfl ?_
    refine mm_iconst (pc := 76) (x := 1) dX12_undo_76 rfl ?_
    refine mm_isub (pc := 77) dX12_undo_77 ?_
    refine mm_putI (pc := 78) (ci := 12) (N := 116) dX12_undo_78 fX12_406 sh_164 (by decide +kernel) rfl rfl rfl ?_
    refine mm_iconst (pc := 81) (x := 1) dX12_undo_81 rfl ?_
    exact mm_zret (pc := 82) dX12_undo_82 rfl rfl (Nat.le_refl 0) (Nat.le_refl 0) ⟨_, rfl, rfl, hG, h⟩
  · have h := mm_iff hc h
    refine mm_aload_n (pc := 28) (j := 0) dX12_undo_28 rfl rfl ?_
    refine mm_getR (pc := 29) (ci := 12) (N := 116) (r := 199) dX12_undo_29 fX12_118 sh_164 rfl (g_164_50 hG) ?_
    refine mm_iload_n (pc := 32) (j := 1) dX12_undo_32 rfl rfl ?_
    refine mm_aload_n (pc := 33) (j := 0) dX12_undo_33 rfl rfl ?_
    refine mm_getR (pc := 34) (ci := 12) (N := 116) (r := 216) dX12_undo_34 fX12_170 sh_164 rfl (g_164_78 hG) ?_
    refine mm_sipush (pc := 37) (x := 204) dX12_undo_37 rfl ?_
    refine mm_aload_n (pc := 40) (j := 0) dX12_undo_40 rfl rfl ?_
    refine mm_getI (pc := 41) (ci := 12) (N := 116) dX12_undo_41 fX12_622 sh_164 rfl ?_
    refine mm_imul (pc := 44) dX12_undo_44 ?_
    refine mm_iload_n (pc := 45) (j := 1) dX12_undo_45 rfl rfl ?_
    refine mm_iadd (pc := 46) dX12_undo_46 ?_
    obtain ⟨hi47, h⟩ := h
    refine mm_iaload (pc := 47) (N := 4080) dX12_undo_47 sh_216 hi47 ?_
    obtain ⟨hi48, h⟩ := h
    refine mm_iastore (pc := 48) (N := 204) dX12_undo_48 sh_199 hi48 ?_
    refine mm_iinc (pc := 49) (j := 1) (v := y1 + 1) (lv' := [(1, .int (y1 + 1)), (0, .ref 164)]) dX12_undo_49 rfl rfl (by decide) rfl ?_
    refine mm_goto (pc := 52) (tgt := 21) dX12_undo_52 (by decide) ?_
    exact mm_sub [1, 0] rfl h
set_option maxRecDepth 100000 in
set_option maxHeartbeats 4000000 in
theorem rX12_isRefused {d : Nat} {M : mm_M} {K : Int32 → mm_M → Prop} (hG : mm_G M.2.2) (h : K 0 (mm_uI M 166 (2 : Int32).toNatClampNeg ((M.1 166 (2 : Int32).toNatClampNeg) + 1))) : mm_CI mX12_isRefused d [.ref 164] M K := by
  show mm_W mX12_isRefused d 0 0 0 [(0, .ref 164)] [] mm_SH M 0 0 (mm_PI K)
  refine mm_aload_n (pc := 0) (j := 0) dX12_isRefused_0 rfl rfl ?_
  refine mm_getR (pc := 1) (ci := 12) (N := 116) (r := 166) dX12_isRefused_1 fX12_17 sh_164 rfl (g_164_9 hG) ?_
  refine mm_iconst (pc := 4) (x := 2) dX12_isRefused_4 rfl ?_
  refine mm_dup2 (pc := 5) dX12_isRefused_5 rfl rfl ?_
  refine mm_iaload (pc := 6) (N := 6) dX12_isRefused_6 sh_166 (mm_vin (k := 2) rfl (by decide) (by decide)) ?_
  refine mm_iconst (pc := 7) (x := 1) dX12_isRefused_7 rfl ?_
  refine mm_iadd (pc := 8) dX12_isRefused_8 ?_
  refine mm_iastore (pc := 9) (N := 6) dX12_isRefused_9 sh_166 (mm_vin (k := 2) rfl (by decide) (by decide)) ?_
  refine mm_iconst (pc := 10) (x := 0) dX12_isRefused_10 rfl ?_
  exact mm_zret (pc := 11) dX12_isRefused_11 rfl rfl (Nat.le_refl 0) (Nat.le_refl 0) ⟨_, rfl, rfl, hG, h⟩
set_option maxRecDepth 100000 in
set_option maxHeartbeats 4000000 in
theorem rX12_feud {d : Nat} {x1 : Int32} {x2 : Int32} {x3 : Int32} {M : mm_M} {K : Int32 → mm_M → Prop} (hG : mm_G M.2.2) (h : mm_CI mX12_areTwo d [.ref 164, .int x1, .int x2] M (fun z3 m3 => if z3 = 0 then (mm_CI mX12_isRefused d [.ref 164] m3 (fun z48 m48 => (z48 = 0 ∨ z48 = 1) ∧ K z48 m48)) else (mm_CI mX12_isThere d [.ref 164, .int x1] m3 (fun z11 m11 => if z11 = 0 then (mm_CI mX12_isRefused d [.ref 164] m11 (fun z48 m48 => (z48 = 0 ∨ z48 = 1) ∧ K z48 m48)) else (mm_CI mX12_isThere d [.ref 164, .int x2] m11 (fun z19 m19 => if z19 = 0 then (mm_CI mX12_isRefused d [.ref 164] m19 (fun z48 m48 => (z48 = 0 ∨ z48 = 1) ∧ K z48 m48)) else (mm_CI mX12_isIn d [.long x3.toInt64, .long 0, .long 99] m19 (fun z31 m31 => if z31 = 0 then (mm_CI mX12_isRefused d [.ref 164] m31 (fun z48 m48 => (z48 = 0 ∨ z48 = 1) ∧ K z48 m48)) else (mm_CI mX12_hateOf d [.ref 164, .int x1, .int x2] m31 (fun z40 m40 => if z40 = x3 then (mm_CI mX12_isRefused d [.ref 164] m40 (fun z48 m48 => (z48 = 0 ∨ z48 = 1) ∧ K z48 m48)) else (mm_CV mX12_keeps d [.ref 164] m40 (fun m53 => mm_CI mX12_pairOf d [.int x1, .int x2] m53 (fun z64 m64 => vp_in (22 + z64) 204 ∧ K 1 (mm_uI m64 199 (22 + z64).toNatClampNeg x3)))))))))))))) : mm_CI mX12_feud (d + 1) [.ref 164, .int x1, .int x2, .int x3] M K := by
  show mm_W mX12_feud (d + 1) 0 0 0 [(0, .ref 164), (1, .int x1), (2, .int x2), (3, .int x3)] [] mm_SH M 0 0 (mm_PI K)
  refine mm_aload_n (pc := 0) (j := 0) dX12_feud_0 rfl rfl ?_
  refine mm_iload_n (pc := 1) (j := 1) dX12_feud_1 rfl rfl ?_
  refine mm_iload_n (pc := 2) (j := 2) dX12_feud_2 rfl rfl ?_
  refine mm_kVI (pc := 3) [.int x1, .int x2] dX12_feud_3 kX12_541 rfl sh_164 (Nat.le_of_ble_eq_true rfl) (Nat.le_of_ble_eq_true rfl) h (fun z3 m3 hG h => ?_)
  refine mm_if_eq (pc := 6) (tgt := 47) dX12_feud_6 (by decide) (fun hc => ?_) (fun hc => ?_)
  · have h := mm_ift hc h
    refine mm_aload_n (pc := 47) (j := 0) dX12_feud_47 rfl rfl ?_
    refine mm_kVI (pc := 48) [] dX12_feud_48 kX12_625 rfl sh_164 (Nat.le_of_ble_eq_true rfl) (Nat.le_of_ble_eq_true rfl) h (fun z48 m48 hG h => ?_)
    obtain ⟨hb, h⟩ := h
    exact mm_zret (pc := 51) dX12_feud_51 rfl (mm_nb hb) (Nat.le_refl 0) (Nat.le_refl 0) ⟨_, rfl, rfl, hG, h⟩
  · have h := mm_iff hc h
    refine mm_aload_n (pc := 9) (j := 0) dX12_feud_9 rfl rfl ?_
    refine mm_iload_n (pc := 10) (j := 1) dX12_feud_10 rfl rfl ?_
    refine mm_kVI (pc := 11) [.int x1] dX12_feud_11 kX12_462 rfl sh_164 (Nat.le_of_ble_eq_true rfl) (Nat.le_of_ble_eq_true rfl) h (fun z11 m11 hG h => ?_)
    refine mm_if_eq (pc := 14) (tgt := 47) dX12_feud_14 (by decide) (fun hc => ?_) (fun hc => ?_)
    · have h := mm_ift hc h
      refine mm_aload_n (pc := 47) (j := 0) dX12_feud_47 rfl rfl ?_
      refine mm_kVI (pc := 48) [] dX12_feud_48 kX12_625 rfl sh_164 (Nat.le_of_ble_eq_true rfl) (Nat.le_of_ble_eq_true rfl) h (fun z48 m48 hG h => ?_)
      obtain ⟨hb, h⟩ := h
      exact mm_zret (pc := 51) dX12_feud_51 rfl (mm_nb hb) (Nat.le_refl 0) (Nat.le_refl 0) ⟨_, rfl, rfl, hG, h⟩
    · have h := mm_iff hc h
      refine mm_aload_n (pc := 17) (j := 0) dX12_feud_17 rfl rfl ?_
      refine mm_iload_n (pc := 18) (j := 2) dX12_feud_18 rfl rfl ?_
      refine mm_kVI (pc := 19) [.int x2] dX12_feud_19 kX12_462 rfl sh_164 (Nat.le_of_ble_eq_true rfl) (Nat.le_of_ble_eq_true rfl) h (fun z19 m19 hG h => ?_)
      refine mm_if_eq (pc := 22) (tgt := 47) dX12_feud_22 (by decide) (fun hc => ?_) (fun hc => ?_)
      · have h := mm_ift hc h
        refine mm_aload_n (pc := 47) (j := 0) dX12_feud_47 rfl rfl ?_
        refine mm_kVI (pc := 48) [] dX12_feud_48 kX12_625 rfl sh_164 (Nat.le_of_ble_eq_true rfl) (Nat.le_of_ble_eq_true rfl) h (fun z48 m48 hG h => ?_)
        obtain ⟨hb, h⟩ := h
        exact mm_zret (pc := 51) dX12_feud_51 rfl (mm_nb hb) (Nat.le_refl 0) (Nat.le_refl 0) ⟨_, rfl, rfl, hG, h⟩
      · have h := mm_iff hc h
        refine mm_iload_n (pc := 25) (j := 3) dX12_feud_25 rfl rfl ?_
        refine mm_i2l (pc := 26) dX12_feud_26 ?_
        refine mm_lconst (pc := 27) (x := 0) dX12_feud_27 rfl ?_
        refine mm_ldc2 (pc := 28) (x := 99) dX12_feud_28 cX12_255 ?_
        refine mm_kSI (pc := 31) [.long x3.toInt64, .long 0, .long 99] dX12_feud_31 kX12_303 rfl (Nat.le_of_ble_eq_true rfl) (Nat.le_of_ble_eq_true rfl) h (fun z31 m31 hG h => ?_)
        refine mm_if_eq (pc := 34) (tgt := 47) dX12_feud_34 (by decide) (fun hc => ?_) (fun hc => ?_)
        · have h := mm_ift hc h
          refine mm_aload_n (pc := 47) (j := 0) dX12_feud_47 rfl rfl ?_
          refine mm_kVI (pc := 48) [] dX12_feud_48 kX12_625 rfl sh_164 (Nat.le_of_ble_eq_true rfl) (Nat.le_of_ble_eq_true rfl) h (fun z48 m48 hG h => ?_)
          obtain ⟨hb, h⟩ := h
          exact mm_zret (pc := 51) dX12_feud_51 rfl (mm_nb hb) (Nat.le_refl 0) (Nat.le_refl 0) ⟨_, rfl, rfl, hG, h⟩
        · have h := mm_iff hc h
          refine mm_aload_n (pc := 37) (j := 0) dX12_feud_37 rfl rfl ?_
          refine mm_iload_n (pc := 38) (j := 1) dX12_feud_38 rfl rfl ?_
          refine mm_iload_n (pc := 39) (j := 2) dX12_feud_39 rfl rfl ?_
          refine mm_kVI (pc := 40) [.int x1, .int x2] dX12_feud_40 kX12_415 rfl sh_164 (Nat.le_of_ble_eq_true rfl) (Nat.le_of_ble_eq_true rfl) h (fun z40 m40 hG h => ?_)
          refine mm_iload_n (pc := 43) (j := 3) dX12_feud_43 rfl rfl ?_
          refine mm_icmp_ne (pc := 44) (tgt := 52) dX12_feud_44 (by decide) (fun hc => ?_) (fun hc => ?_)
          · have h := mm_iff hc h
            refine mm_aload_n (pc := 52) (j := 0) dX12_feud_52 rfl rfl ?_
            refine mm_kVV (pc := 53) [] dX12_feud_53 kX12_628 rfl sh_164 (Nat.le_of_ble_eq_true rfl) (Nat.le_of_ble_eq_true rfl) h (fun m53 hG h => ?_)
            refine mm_aload_n (pc := 56) (j := 0) dX12_feud_56 rfl rfl ?_
            refine mm_getR (pc := 57) (ci := 12) (N := 116) (r := 199) dX12_feud_57 fX12_118 sh_164 rfl (g_164_50 hG) ?_
            refine mm_bipush (pc := 60) (x := 22) dX12_feud_60 rfl ?_
            refine mm_iload_n (pc := 62) (j := 1) dX12_feud_62 rfl rfl ?_
            refine mm_iload_n (pc := 63) (j := 2) dX12_feud_63 rfl rfl ?_
            refine mm_kSI (pc := 64) [.int x1, .int x2] dX12_feud_64 kX12_347 rfl (Nat.le_of_ble_eq_true rfl) (Nat.le_of_ble_eq_true rfl) h (fun z64 m64 hG h => ?_)
            refine mm_iadd (pc := 67) dX12_feud_67 ?_
            refine mm_iload_n (pc := 68) (j := 3) dX12_feud_68 rfl rfl ?_
            obtain ⟨hi69, h⟩ := h
            refine mm_iastore (pc := 69) (N := 204) dX12_feud_69 sh_199 hi69 ?_
            refine mm_iconst (pc := 70) (x := 1) dX12_feud_70 rfl ?_
            exact mm_zret (pc := 71) dX12_feud_71 rfl rfl (Nat.le_refl 0) (Nat.le_refl 0) ⟨_, rfl, rfl, hG, h⟩
          · have h := mm_ift hc h
            refine mm_aload_n (pc := 47) (j := 0) dX12_feud_47 rfl rfl ?_
            refine mm_kVI (pc := 48) [] dX12_feud_48 kX12_625 rfl sh_164 (Nat.le_of_ble_eq_true rfl) (Nat.le_of_ble_eq_true rfl) h (fun z48 m48 hG h => ?_)
            obtain ⟨hb, h⟩ := h
            exact mm_zret (pc := 51) dX12_feud_51 rfl (mm_nb hb) (Nat.le_refl 0) (Nat.le_refl 0) ⟨_, rfl, rfl, hG, h⟩
set_option maxRecDepth 100000 in
set_option maxHeartbeats 4000000 in
theorem rX12_bring {d : Nat} {x1 : Int32} {x2 : Int32} {M : mm_M} {K : Int32 → mm_M → Prop} (hG : mm_G M.2.2) (h : mm_CI mX12_isHouse d [.ref 164, .long x1.toInt64] M (fun z3 m3 => if z3 = 0 then (mm_CI mX12_isRefused d [.ref 164] m3 (fun z39 m39 => (z39 = 0 ∨ z39 = 1) ∧ K z39 m39)) else (mm_CI mX12_isThere d [.ref 164, .int x1] m3 (fun z11 m11 => if z11 = 0 then (mm_CI mX12_isRefused d [.ref 164] m11 (fun z39 m39 => (z39 = 0 ∨ z39 = 1) ∧ K z39 m39)) else (mm_CI mX12_isIn d [.long x2.toInt64, .long 0, .long 99] m11 (fun z23 m23 => if z23 = 0 then (mm_CI mX12_isRefused d [.ref 164] m23 (fun z39 m39 => (z39 = 0 ∨ z39 = 1) ∧ K z39 m39)) else (mm_CI mX12_flourOf d [.ref 164, .int x1] m23 (fun z31 m31 => if z31 = x2 then (mm_CI mX12_isRefused d [.ref 164] m31 (fun z39 m39 => (z39 = 0 ∨ z39 = 1) ∧ K z39 m39)) else (mm_CV mX12_keeps d [.ref 164] m31 (fun m44 => vp_in (2 + (3 * x1)) 204 ∧ K 1 (mm_uI m44 199 (2 + (3 * x1)).toNatClampNeg x2))))))))))) : mm_CI mX12_bring (d + 1) [.ref 164, .int x1, .int x2] M K := by
  show mm_W mX12_bring (d + 1) 0 0 0 [(0, .ref 164), (1, .int x1), (2, .int x2)] [] mm_SH M 0 0 (mm_PI K)
  refine mm_aload_n (pc := 0) (j := 0) dX12_bring_0 rfl rfl ?_
  refine mm_iload_n (pc := 1) (j := 1) dX12_bring_1 rfl rfl ?_
  refine mm_i2l (pc := 2) dX12_bring_2 ?_
  refine mm_kVI (pc := 3) [.long x1.toInt64] dX12_bring_3 kX12_534 rfl sh_164 (Nat.le_of_ble_eq_true rfl) (Nat.le_of_ble_eq_true rfl) h (fun z3 m3 hG h => ?_)
  refine mm_if_eq (pc := 6) (tgt := 38) dX12_bring_6 (by decide) (fun hc => ?_) (fun hc => ?_)
  · have h := mm_ift hc h
    refine mm_aload_n (pc := 38) (j := 0) dX12_bring_38 rfl rfl ?_
    refine mm_kVI (pc := 39) [] dX12_bring_39 kX12_625 rfl sh_164 (Nat.le_of_ble_eq_true rfl) (Nat.le_of_ble_eq_true rfl) h (fun z39 m39 hG h => ?_)
    obtain ⟨hb, h⟩ := h
    exact mm_zret (pc := 42) dX12_bring_42 rfl (mm_nb hb) (Nat.le_refl 0) (Nat.le_refl 0) ⟨_, rfl, rfl, hG, h⟩
  · have h := mm_iff hc h
    refine mm_aload_n (pc := 9) (j := 0) dX12_bring_9 rfl rfl ?_
    refine mm_iload_n (pc := 10) (j := 1) dX12_bring_10 rfl rfl ?_
    refine mm_kVI (pc := 11) [.int x1] dX12_bring_11 kX12_462 rfl sh_164 (Nat.le_of_ble_eq_true rfl) (Nat.le_of_ble_eq_true rfl) h (fun z11 m11 hG h => ?_)
    refine mm_if_eq (pc := 14) (tgt := 38) dX12_bring_14 (by decide) (fun hc => ?_) (fun hc => ?_)
    · have h := mm_ift hc h
      refine mm_aload_n (pc := 38) (j := 0) dX12_bring_38 rfl rfl ?_
      refine mm_kVI (pc := 39) [] dX12_bring_39 kX12_625 rfl sh_164 (Nat.le_of_ble_eq_true rfl) (Nat.le_of_ble_eq_true rfl) h (fun z39 m39 hG h => ?_)
      obtain ⟨hb, h⟩ := h
      exact mm_zret (pc := 42) dX12_bring_42 rfl (mm_nb hb) (Nat.le_refl 0) (Nat.le_refl 0) ⟨_, rfl, rfl, hG, h⟩
    · have h := mm_iff hc h
      refine mm_iload_n (pc := 17) (j := 2) dX12_bring_17 rfl rfl ?_
      refine mm_i2l (pc := 18) dX12_bring_18 ?_
      refine mm_lconst (pc := 19) (x := 0) dX12_bring_19 rfl ?_
      refine mm_ldc2 (pc := 20) (x := 99) dX12_bring_20 cX12_255 ?_
      refine mm_kSI (pc := 23) [.long x2.toInt64, .long 0, .long 99] dX12_bring_23 kX12_303 rfl (Nat.le_of_ble_eq_true rfl) (Nat.le_of_ble_eq_true rfl) h (fun z23 m23 hG h => ?_)
      refine mm_if_eq (pc := 26) (tgt := 38) dX12_bring_26 (by decide) (fun hc => ?_) (fun hc => ?_)
      · have h := mm_ift hc h
        refine mm_aload_n (pc := 38) (j := 0) dX12_bring_38 rfl rfl ?_
        refine mm_kVI (pc := 39) [] dX12_bring_39 kX12_625 rfl sh_164 (Nat.le_of_ble_eq_true rfl) (Nat.le_of_ble_eq_true rfl) h (fun z39 m39 hG h => ?_)
        obtain ⟨hb, h⟩ := h
        exact mm_zret (pc := 42) dX12_bring_42 rfl (mm_nb hb) (Nat.le_refl 0) (Nat.le_refl 0) ⟨_, rfl, rfl, hG, h⟩
      · have h := mm_iff hc h
        refine mm_aload_n (pc := 29) (j := 0) dX12_bring_29 rfl rfl ?_
        refine mm_iload_n (pc := 30) (j := 1) dX12_bring_30 rfl rfl ?_
        refine mm_kVI (pc := 31) [.int x1] dX12_bring_31 kX12_465 rfl sh_164 (Nat.le_of_ble_eq_true rfl) (Nat.le_of_ble_eq_true rfl) h (fun z31 m31 hG h => ?_)
        refine mm_iload_n (pc := 34) (j := 2) dX12_bring_34 rfl rfl ?_
        refine mm_icmp_ne (pc := 35) (tgt := 43) dX12_bring_35 (by decide) (fun hc => ?_) (fun hc => ?_)
        · have h := mm_iff hc h
          refine mm_aload_n (pc := 43) (j := 0) dX12_bring_43 rfl rfl ?_
          refine mm_kVV (pc := 44) [] dX12_bring_44 kX12_628 rfl sh_164 (Nat.le_of_ble_eq_true rfl) (Nat.le_of_ble_eq_true rfl) h (fun m44 hG h => ?_)
          refine mm_aload_n (pc := 47) (j := 0) dX12_bring_47 rfl rfl ?_
          refine mm_getR (pc := 48) (ci := 12) (N := 116) (r := 199) dX12_bring_48 fX12_118 sh_164 rfl (g_164_50 hG) ?_
          refine mm_iconst (pc := 51) (x := 2) dX12_bring_51 rfl ?_
          refine mm_iconst (pc := 52) (x := 3) dX12_bring_52 rfl ?_
          refine mm_iload_n (pc := 53) (j := 1) dX12_bring_53 rfl rfl ?_
          refine mm_imul (pc := 54) dX12_bring_54 ?_
          refine mm_iadd (pc := 55) dX12_bring_55 ?_
          refine mm_iload_n (pc := 56) (j := 2) dX12_bring_56 rfl rfl ?_
          obtain ⟨hi57, h⟩ := h
          refine mm_iastore (pc := 57) (N := 204) dX12_bring_57 sh_199 hi57 ?_
          refine mm_iconst (pc := 58) (x := 1) dX12_bring_58 rfl ?_
          exact mm_zret (pc := 59) dX12_bring_59 rfl rfl (Nat.le_refl 0) (Nat.le_refl 0) ⟨_, rfl, rfl, hG, h⟩
        · have h := mm_ift hc h
          refine mm_aload_n (pc := 38) (j := 0) dX12_bring_38 rfl rfl ?_
          refine mm_kVI (pc := 39) [] dX12_bring_39 kX12_625 rfl sh_164 (Nat.le_of_ble_eq_true rfl) (Nat.le_of_ble_eq_true rfl) h (fun z39 m39 hG h => ?_)
          obtain ⟨hb, h⟩ := h
          exact mm_zret (pc := 42) dX12_bring_42 rfl (mm_nb hb) (Nat.le_refl 0) (Nat.le_refl 0) ⟨_, rfl, rfl, hG, h⟩
set_option maxRecDepth 100000 in
set_option maxHeartbeats 4000000 in
theorem rX12_days {d : Nat} {x1 : Int32} {M : mm_M} {K : Int32 → mm_M → Prop} (hG : mm_G M.2.2) (h : mm_CI mX12_isAhead d [.ref 164, .int x1, .int 1, .int 100] M (fun z5 m5 => if z5 = 0 then (mm_CI mX12_refuses d [.ref 164, .int 3] m5 (fun z13 m13 => K z13 m13)) else (mm_CV mX12_keeps d [.ref 164] m5 (fun m18 => mm_CV mX12_daysGo d [.ref 164, .int x1] (mm_uI m18 164 58 0) (fun m28 => K (m28.1 164 58) m28))))) : mm_CI mX12_days (d + 1) [.ref 164, .int x1] M K := by
  show mm_W mX12_days (d + 1) 0 0 0 [(0, .ref 164), (1, .int x1)] [] mm_SH M 0 0 (mm_PI K)
  refine mm_aload_n (pc := 0) (j := 0) dX12_days_0 rfl rfl ?_
  refine mm_iload_n (pc := 1) (j := 1) dX12_days_1 rfl rfl ?_
  refine mm_iconst (pc := 2) (x := 1) dX12_days_2 rfl ?_
  refine mm_bipush (pc := 3) (x := 100) dX12_days_3 rfl ?_
  refine mm_kVI (pc := 5) [.int x1, .int 1, .int 100] dX12_days_5 kX12_550 rfl sh_164 (Nat.le_of_ble_eq_true rfl) (Nat.le_of_ble_eq_true rfl) h (fun z5 m5 hG h => ?_)
  refine mm_if_ne (pc := 8) (tgt := 17) dX12_days_8 (by decide) (fun hc => ?_) (fun hc => ?_)
  · have h := mm_iff hc h
    refine mm_aload_n (pc := 17) (j := 0) dX12_days_17 rfl rfl ?_
    refine mm_kVV (pc := 18) [] dX12_days_18 kX12_628 rfl sh_164 (Nat.le_of_ble_eq_true rfl) (Nat.le_of_ble_eq_true rfl) h (fun m18 hG h => ?_)
    refine mm_aload_n (pc := 21) (j := 0) dX12_days_21 rfl rfl ?_
    refine mm_iconst (pc := 22) (x := 0) dX12_days_22 rfl ?_
    refine mm_putI (pc := 23) (ci := 12) (N := 116) dX12_days_23 fX12_489 sh_164 (by decide +kernel) rfl rfl rfl ?_
    refine mm_aload_n (pc := 26) (j := 0) dX12_days_26 rfl rfl ?_
    refine mm_iload_n (pc := 27) (j := 1) dX12_days_27 rfl rfl ?_
    refine mm_kVV (pc := 28) [.int x1] dX12_days_28 kX12_556 rfl sh_164 (Nat.le_of_ble_eq_true rfl) (Nat.le_of_ble_eq_true rfl) h (fun m28 hG h => ?_)
    refine mm_aload_n (pc := 31) (j := 0) dX12_days_31 rfl rfl ?_
    refine mm_getI (pc := 32) (ci := 12) (N := 116) dX12_days_32 fX12_489 sh_164 rfl ?_
    exact mm_iret (pc := 35) dX12_days_35 rfl (Nat.le_refl 0) (Nat.le_refl 0) ⟨_, rfl, rfl, hG, h⟩
  · have h := mm_ift hc h
    refine mm_aload_n (pc := 11) (j := 0) dX12_days_11 rfl rfl ?_
    refine mm_iconst (pc := 12) (x := 3) dX12_days_12 rfl ?_
    refine mm_kVI (pc := 13) [.int 3] dX12_days_13 kX12_604 rfl sh_164 (Nat.le_of_ble_eq_true rfl) (Nat.le_of_ble_eq_true rfl) h (fun z13 m13 hG h => ?_)
    exact mm_iret (pc := 16) dX12_days_16 rfl (Nat.le_refl 0) (Nat.le_refl 0) ⟨_, rfl, rfl, hG, h⟩
set_option maxRecDepth 100000 in
set_option maxHeartbeats 4000000 in
theorem rX12_seed {d : Nat} {x1 : Int32} {M : mm_M} {K : Int32 → mm_M → Prop} (hG : mm_G M.2.2) (h : if 0 ≤ x1 then (K 1 (mm_uL M 164 81 x1.toInt64)) else (K 0 (mm_uI M 166 (5 : Int32).toNatClampNeg ((M.1 166 (5 : Int32).toNatClampNeg) + 1)))) : mm_CI mX12_seed d [.ref 164, .int x1] M K := by
  show mm_W mX12_seed d 0 0 0 [(0, .ref 164), (1, .int x1)] [] mm_SH M 0 0 (mm_PI K)
  refine mm_iload_n (pc := 0) (j := 1) dX12_seed_0 rfl rfl ?_
  refine mm_if_ge (pc := 1) (tgt := 16) dX12_seed_1 (by decide) (fun hc => ?_) (fun hc => ?_)
  · have h := mm_ift hc h
    refine mm_aload_n (pc := 16) (j := 0) dX12_seed_16 rfl rfl ?_
    refine mm_iload_n (pc := 17) (j := 1) dX12_seed_17 rfl rfl ?_
    refine mm_i2l (pc := 18) dX12_seed_18 ?_
    refine mm_putL (pc := 19) (ci := 12) (N := 116) dX12_seed_19 fX12_173 sh_164 (by decide +kernel) rfl ?_
    refine mm_iconst (pc := 22) (x := 1) dX12_seed_22 rfl ?_
    exact mm_zret (pc := 23) dX12_seed_23 rfl rfl (Nat.le_refl 0) (Nat.le_refl 0) ⟨_, rfl, rfl, hG, h⟩
  · have h := mm_iff hc h
    refine mm_aload_n (pc := 4) (j := 0) dX12_seed_4 rfl rfl ?_
    refine mm_getR (pc := 5) (ci := 12) (N := 116) (r := 166) dX12_seed_5 fX12_17 sh_164 rfl (g_164_9 hG) ?_
    refine mm_iconst (pc := 8) (x := 5) dX12_seed_8 rfl ?_
    refine mm_dup2 (pc := 9) dX12_seed_9 rfl rfl ?_
    refine mm_iaload (pc := 10) (N := 6) dX12_seed_10 sh_166 (mm_vin (k := 5) rfl (by decide) (by decide)) ?_
    refine mm_iconst (pc := 11) (x := 1) dX12_seed_11 rfl ?_
    refine mm_iadd (pc := 12) dX12_seed_12 ?_
    refine mm_iastore (pc := 13) (N := 6) dX12_seed_13 sh_166 (mm_vin (k := 5) rfl (by decide) (by decide)) ?_
    refine mm_iconst (pc := 14) (x := 0) dX12_seed_14 rfl ?_
    exact mm_zret (pc := 15) dX12_seed_15 rfl rfl (Nat.le_refl 0) (Nat.le_refl 0) ⟨_, rfl, rfl, hG, h⟩
set_option maxRecDepth 100000 in
set_option maxHeartbeats 4000000 in
theorem rX12_drawOf {d : Nat} {x1 : Int32} {M : mm_M} {K : Int32 → mm_M → Prop} (hG : mm_G M.2.2) (h : ¬ x1.toInt64 = 0 ∧ K (((((mm_uL M 164 81 (((1103515245 * (M.2.1 164 81)) + 12345) - ((1103515245 * (M.2.1 164 81)) + 12345) / 2147483648 * 2147483648)).2.1 164 81) / 64) - (((mm_uL M 164 81 (((1103515245 * (M.2.1 164 81)) + 12345) - ((1103515245 * (M.2.1 164 81)) + 12345) / 2147483648 * 2147483648)).2.1 164 81) / 64) / x1.toInt64 * x1.toInt64).toInt32) (mm_uL M 164 81 (((1103515245 * (M.2.1 164 81)) + 12345) - ((1103515245 * (M.2.1 164 81)) + 12345) / 2147483648 * 2147483648))) : mm_CI mX12_drawOf d [.ref 164, .int x1] M K := by
  show mm_W mX12_drawOf d 0 0 0 [(0, .ref 164), (1, .int x1)] [] mm_SH M 0 0 (mm_PI K)
  refine mm_aload_n (pc := 0) (j := 0) dX12_drawOf_0 rfl rfl ?_
  refine mm_ldc2 (pc := 1) (x := 1103515245) dX12_drawOf_1 cX12_631 ?_
  refine mm_aload_n (pc := 4) (j := 0) dX12_drawOf_4 rfl rfl ?_
  refine mm_getL (pc := 5) (ci := 12) (N := 116) dX12_drawOf_5 fX12_173 sh_164 rfl ?_
  refine mm_lmul (pc := 8) dX12_drawOf_8 ?_
  refine mm_ldc2 (pc := 9) (x := 12345) dX12_drawOf_9 cX12_633 ?_
  refine mm_ladd (pc := 12) dX12_drawOf_12 ?_
  refine mm_ldc2 (pc := 13) (x := 2147483648) dX12_drawOf_13 cX12_635 ?_
  refine mm_lrem (pc := 16) dX12_drawOf_16 (by decide) ?_
  refine mm_putL (pc := 17) (ci := 12) (N := 116) dX12_drawOf_17 fX12_173 sh_164 (by decide +kernel) rfl ?_
  refine mm_aload_n (pc := 20) (j := 0) dX12_drawOf_20 rfl rfl ?_
  refine mm_getL (pc := 21) (ci := 12) (N := 116) dX12_drawOf_21 fX12_173 sh_164 rfl ?_
  refine mm_ldc2 (pc := 24) (x := 64) dX12_drawOf_24 cX12_637 ?_
  refine mm_ldiv (pc := 27) dX12_drawOf_27 (by decide) ?_
  refine mm_iload_n (pc := 28) (j := 1) dX12_drawOf_28 rfl rfl ?_
  refine mm_i2l (pc := 29) dX12_drawOf_29 ?_
  obtain ⟨hz30, h⟩ := h
  refine mm_lrem (pc := 30) dX12_drawOf_30 hz30 ?_
  refine mm_l2i (pc := 31) dX12_drawOf_31 ?_
  exact mm_iret (pc := 32) dX12_drawOf_32 rfl (Nat.le_refl 0) (Nat.le_refl 0) ⟨_, rfl, rfl, hG, h⟩
def jX12_chance_25 (d : Nat) (x1 : Int32) (M : mm_M) (K : Int32 → mm_M → Prop) (y1 : Int32) (y2 : Int32) (y3 : Int32) : Prop := mm_W mX12_chance (d + 1) 0 0 25 [(0, .ref 164), (1, .int y1), (2, .int y2), (3, .int y3)] [] mm_SH M 0 0 (mm_PI K)
set_option maxRecDepth 100000 in
set_option maxHeartbeats 4000000 in
theorem rX12_chance {d : Nat} {x1 : Int32} {M : mm_M} {K : Int32 → mm_M → Prop} (hG : mm_G M.2.2) (h : mm_CI mX12_isAhead d [.ref 164, .int x1, .int 1, .int 100] M (fun z5 m5 => if z5 = 0 then (mm_CI mX12_refuses d [.ref 164, .int 3] m5 (fun z13 m13 => K z13 m13)) else (mm_CV mX12_keeps d [.ref 164] m5 (fun m18 => jX12_chance_25 d x1 m18 K x1 0 0)))) : mm_CI mX12_chance (d + 1) [.ref 164, .int x1] M K := by
  show mm_W mX12_chance (d + 1) 0 0 0 [(0, .ref 164), (1, .int x1)] [] mm_SH M 0 0 (mm_PI K)
  refine mm_aload_n (pc := 0) (j := 0) dX12_chance_0 rfl rfl ?_
  refine mm_iload_n (pc := 1) (j := 1) dX12_chance_1 rfl rfl ?_
  refine mm_iconst (pc := 2) (x := 1) dX12_chance_2 rfl ?_
  refine mm_bipush (pc := 3) (x := 100) dX12_chance_3 rfl ?_
  refine mm_kVI (pc := 5) [.int x1, .int 1, .int 100] dX12_chance_5 kX12_550 rfl sh_164 (Nat.le_of_ble_eq_true rfl) (Nat.le_of_ble_eq_true rfl) h (fun z5 m5 hG h => ?_)
  refine mm_if_ne (pc := 8) (tgt := 17) dX12_chance_8 (by decide) (fun hc => ?_) (fun hc => ?_)
  · have h := mm_iff hc h
    refine mm_aload_n (pc := 17) (j := 0) dX12_chance_17 rfl rfl ?_
    refine mm_kVV (pc := 18) [] dX12_chance_18 kX12_628 rfl sh_164 (Nat.le_of_ble_eq_true rfl) (Nat.le_of_ble_eq_true rfl) h (fun m18 hG h => ?_)
    refine mm_iconst (pc := 21) (x := 0) dX12_chance_21 rfl ?_
    refine mm_istore_n (pc := 22) (lv' := [(2, .int 0), (0, .ref 164), (1, .int x1)]) dX12_chance_22 rfl (by decide) rfl ?_
    refine mm_iconst (pc := 23) (x := 0) dX12_chance_23 rfl ?_
    refine mm_istore_n (pc := 24) (lv' := [(3, .int 0), (2, .int 0), (0, .ref 164), (1, .int x1)]) dX12_chance_24 rfl (by decide) rfl ?_
    exact mm_sub [2, 3, 1, 0] rfl h
  · have h := mm_ift hc h
    refine mm_aload_n (pc := 11) (j := 0) dX12_chance_11 rfl rfl ?_
    refine mm_iconst (pc := 12) (x := 3) dX12_chance_12 rfl ?_
    refine mm_kVI (pc := 13) [.int 3] dX12_chance_13 kX12_604 rfl sh_164 (Nat.le_of_ble_eq_true rfl) (Nat.le_of_ble_eq_true rfl) h (fun z13 m13 hG h => ?_)
    exact mm_iret (pc := 16) dX12_chance_16 rfl (Nat.le_refl 0) (Nat.le_refl 0) ⟨_, rfl, rfl, hG, h⟩
set_option maxRecDepth 100000 in
set_option maxHeartbeats 4000000 in
theorem lX12_chance_25 {d : Nat} {x1 : Int32} {M : mm_M} {K : Int32 → mm_M → Prop} {y1 : Int32} {y2 : Int32} {y3 : Int32} (hG : mm_G M.2.2) (h : if y1 ≤ y3 then (K y2 M) else (mm_CI mX12_drawOf d [.ref 164, .int 100] M (fun z33 m33 => if (m33.1 191 (3 : Int32).toNatClampNeg) ≤ z33 then (mm_CV mX12_dayGoes d [.ref 164] m33 (fun m85 => jX12_chance_25 d x1 m85 K y1 y2 (y3 + 1))) else (mm_CI mX12_houseMany d [.ref 164] m33 (fun z46 m46 => if z46 ≤ 0 then (mm_CV mX12_dayGoes d [.ref 164] m46 (fun m85 => jX12_chance_25 d x1 m85 K y1 y2 (y3 + 1))) else (mm_CI mX12_houseMany d [.ref 164] m46 (fun z54 m54 => mm_CI mX12_drawOf d [.ref 164, .int z54] m54 (fun z57 m57 => mm_CI mX12_flourOf d [.ref 164, .int z57] m57 (fun z75 m75 => vp_in (2 + (3 * z57)) 204 ∧ mm_CV mX12_dayGoes d [.ref 164] (mm_uI m75 199 (2 + (3 * z57)).toNatClampNeg (z75 / 2)) (fun m85 => jX12_chance_25 d x1 m85 K y1 (y2 + 1) (y3 + 1))))))))))) : jX12_chance_25 d x1 M K y1 y2 y3 := by
  unfold jX12_chance_25
  refine mm_iload_n (pc := 25) (j := 3) dX12_chance_25 rfl rfl ?_
  refine mm_iload_n (pc := 26) (j := 1) dX12_chance_26 rfl rfl ?_
  refine mm_icmp_ge (pc := 27) (tgt := 94) dX12_chance_27 (by decide) (fun hc => ?_) (fun hc => ?_)
  · have h := mm_ift hc h
    refine mm_iload_n (pc := 94) (j := 2) dX12_chance_94 rfl rfl ?_
    exact mm_iret (pc := 95) dX12_chance_95 rfl (Nat.le_refl 0) (Nat.le_refl 0) ⟨_, rfl, rfl, hG, h⟩
  · have h := mm_iff hc h
    refine mm_aload_n (pc := 30) (j := 0) dX12_chance_30 rfl rfl ?_
    refine mm_bipush (pc := 31) (x := 100) dX12_chance_31 rfl ?_
    refine mm_kVI (pc := 33) [.int 100] dX12_chance_33 kX12_639 rfl sh_164 (Nat.le_of_ble_eq_true rfl) (Nat.le_of_ble_eq_true rfl) h (fun z33 m33 hG h => ?_)
    refine mm_aload_n (pc := 36) (j := 0) dX12_chance_36 rfl rfl ?_
    refine mm_getR (pc := 37) (ci := 12) (N := 116) (r := 191) dX12_chance_37 fX12_93 sh_164 rfl (g_164_36 hG) ?_
    refine mm_iconst (pc := 40) (x := 3) dX12_chance_40 rfl ?_
    refine mm_iaload (pc := 41) (N := 4) dX12_chance_41 sh_191 (mm_vin (k := 3) rfl (by decide) (by decide)) ?_
    refine mm_icmp_ge (pc := 42) (tgt := 84) dX12_chance_42 (by decide) (fun hc => ?_) (fun hc => ?_)
    · have h := mm_ift hc h
      refine mm_aload_n (pc := 84) (j := 0) dX12_chance_84 rfl rfl ?_
      refine mm_kVV (pc := 85) [] dX12_chance_85 kX12_516 rfl sh_164 (Nat.le_of_ble_eq_true rfl) (Nat.le_of_ble_eq_true rfl) h (fun m85 hG h => ?_)
      refine mm_iinc (pc := 88) (j := 3) (v := y3 + 1) (lv' := [(3, .int (y3 + 1)), (0, .ref 164), (1, .int y1), (2, .int y2)]) dX12_chance_88 rfl rfl (by decide) rfl ?_
      refine mm_goto (pc := 91) (tgt := 25) dX12_chance_91 (by decide) ?_
      exact mm_sub [1, 2, 3, 0] rfl h
    · have h := mm_iff hc h
      refine mm_aload_n (pc := 45) (j := 0) dX12_chance_45 rfl rfl ?_
      refine mm_kVI (pc := 46) [] dX12_chance_46 kX12_412 rfl sh_164 (Nat.le_of_ble_eq_true rfl) (Nat.le_of_ble_eq_true rfl) h (fun z46 m46 hG h => ?_)
      refine mm_if_le (pc := 49) (tgt := 84) dX12_chance_49 (by decide) (fun hc => ?_) (fun hc => ?_)
      · have h := mm_ift hc h
        refine mm_aload_n (pc := 84) (j := 0) dX12_chance_84 rfl rfl ?_
        refine mm_kVV (pc := 85) [] dX12_chance_85 kX12_516 rfl sh_164 (Nat.le_of_ble_eq_true rfl) (Nat.le_of_ble_eq_true rfl) h (fun m85 hG h => ?_)
        refine mm_iinc (pc := 88) (j := 3) (v := y3 + 1) (lv' := [(3, .int (y3 + 1)), (0, .ref 164), (1, .int y1), (2, .int y2)]) dX12_chance_88 rfl rfl (by decide) rfl ?_
        refine mm_goto (pc := 91) (tgt := 25) dX12_chance_91 (by decide) ?_
        exact mm_sub [1, 2, 3, 0] rfl h
      · have h := mm_iff hc h
        refine mm_aload_n (pc := 52) (j := 0) dX12_chance_52 rfl rfl ?_
        refine mm_aload_n (pc := 53) (j := 0) dX12_chance_53 rfl rfl ?_
        refine mm_kVI (pc := 54) [] dX12_chance_54 kX12_412 rfl sh_164 (Nat.le_of_ble_eq_true rfl) (Nat.le_of_ble_eq_true rfl) h (fun z54 m54 hG h => ?_)
        refine mm_kVI (pc := 57) [.int z54] dX12_chance_57 kX12_639 rfl sh_164 (Nat.le_of_ble_eq_true rfl) (Nat.le_of_ble_eq_true rfl) h (fun z57 m57 hG h => ?_)
        refine mm_istore (pc := 60) (lv' := [(4, .int z57), (0, .ref 164), (1, .int y1), (2, .int y2), (3, .int y3)]) dX12_chance_60 (by decide) rfl ?_
        refine mm_aload_n (pc := 62) (j := 1) dX12_chance_62 rfl rfl ?_
        refine mm_getR (pc := 63) (ci := 12) (N := 116) (r := 199) dX12_chance_63 fX12_118 sh_164 rfl (g_164_50 hG) ?_
        refine mm_iconst (pc := 66) (x := 2) dX12_chance_66 rfl ?_
        refine mm_iconst (pc := 67) (x := 3) dX12_chance_67 rfl ?_
        refine mm_iload (pc := 68) (j := 0) dX12_chance_68 rfl ?_
        refine mm_imul (pc := 70) dX12_chance_70 ?_
        refine mm_iadd (pc := 71) dX12_chance_71 ?_
        refine mm_aload_n (pc := 72) (j := 1) dX12_chance_72 rfl rfl ?_
        refine mm_iload (pc := 73) (j := 0) dX12_chance_73 rfl ?_
        refine mm_kVI (pc := 75) [.int z57] dX12_chance_75 kX12_465 rfl sh_164 (Nat.le_of_ble_eq_true rfl) (Nat.le_of_ble_eq_true rfl) h (fun z75 m75 hG h => ?_)
        refine mm_iconst (pc := 78) (x := 2) dX12_chance_78 rfl ?_
        refine mm_idiv (pc := 79) dX12_chance_79 (by decide) ?_
        obtain ⟨hi80, h⟩ := h
        refine mm_iastore (pc := 80) (N := 204) dX12_chance_80 sh_199 hi80 ?_
        refine mm_iinc (pc := 81) (j := 3) (v := y2 + 1) (lv' := [(2, .int (y2 + 1)), (4, .int z57), (0, .ref 164), (1, .int y1), (3, .int y3)]) dX12_chance_81 rfl rfl (by decide) rfl ?_
        refine mm_aload_n (pc := 84) (j := 2) dX12_chance_84 rfl rfl ?_
        refine mm_kVV (pc := 85) [] dX12_chance_85 kX12_516 rfl sh_164 (Nat.le_of_ble_eq_true rfl) (Nat.le_of_ble_eq_true rfl) h (fun m85 hG h => ?_)
        refine mm_iinc (pc := 88) (j := 4) (v := y3 + 1) (lv' := [(3, .int (y3 + 1)), (2, .int (y2 + 1)), (4, .int z57), (0, .ref 164), (1, .int y1)]) dX12_chance_88 rfl rfl (by decide) rfl ?_
        refine mm_goto (pc := 91) (tgt := 25) dX12_chance_91 (by decide) ?_
        exact mm_sub [3, 4, 1, 0] rfl h
set_option maxRecDepth 100000 in
set_option maxHeartbeats 4000000 in
theorem rX12_qCode {d : Nat} {x1 : Int32} {M : mm_M} {K : mm_M → Prop} (hG : mm_G M.2.2) (h : vp_in (M.1 164 105) 1700 ∧ K (mm_uI (mm_uI M 239 (M.1 164 105).toNatClampNeg x1) 164 105 (((mm_uI M 239 (M.1 164 105).toNatClampNeg x1).1 164 105) + 1))) : mm_CV mX12_qCode d [.ref 164, .int x1] M K := by
  show mm_W mX12_qCode d 0 0 0 [(0, .ref 164), (1, .int x1)] [] mm_SH M 0 0 (mm_PV K)
  refine mm_aload_n (pc := 0) (j := 0) dX12_qCode_0 rfl rfl ?_
  refine mm_getR (pc := 1) (ci := 12) (N := 116) (r := 239) dX12_qCode_1 fX12_243 sh_164 rfl (g_164_104 hG) ?_
  refine mm_aload_n (pc := 4) (j := 0) dX12_qCode_4 rfl rfl ?_
  refine mm_getI (pc := 5) (ci := 12) (N := 116) dX12_qCode_5 fX12_354 sh_164 rfl ?_
  refine mm_iload_n (pc := 8) (j := 1) dX12_qCode_8 rfl rfl ?_
  obtain ⟨hi9, h⟩ := h
  refine mm_iastore (pc := 9) (N := 1700) dX12_qCode_9 sh_239 hi9 ?_
  refine mm_aload_n (pc := 10) (j := 0) dX12_qCode_10 rfl rfl ?_
  refine mm_dup (pc := 11) dX12_qCode_11 rfl ?_
  refine mm_getI (pc := 12) (ci := 12) (N := 116) dX12_qCode_12 fX12_354 sh_164 rfl ?_
  refine mm_iconst (pc := 15) (x := 1) dX12_qCode_15 rfl ?_
  refine mm_iadd (pc := 16) dX12_qCode_16 ?_
  refine mm_putI (pc := 17) (ci := 12) (N := 116) dX12_qCode_17 fX12_354 sh_164 (by decide +kernel) rfl rfl rfl ?_
  exact mm_vret (pc := 20) dX12_qCode_20 rfl (Nat.le_refl 0) (Nat.le_refl 0) ⟨rfl, rfl, hG, h⟩
set_option maxRecDepth 100000 in
set_option maxHeartbeats 4000000 in
theorem rX12_qOpens {d : Nat} {x1 : Int32} {x2 : Int32} {M : mm_M} {K : mm_M → Prop} (hG : mm_G M.2.2) (h : if (M.1 164 5) = 0 then (if (M.1 164 108) = 6 then (mm_CV mX12_fail d [.ref 164, .int 4, .int x2] M (fun m20 => K m20)) else (vp_in ((mm_uI M 164 108 ((M.1 164 108) + 1)).1 164 107) 1700 ∧ K (mm_uI (mm_uI (mm_uI M 164 108 ((M.1 164 108) + 1)) 240 ((mm_uI M 164 108 ((M.1 164 108) + 1)).1 164 107).toNatClampNeg x1) 164 107 (((mm_uI (mm_uI M 164 108 ((M.1 164 108) + 1)) 240 ((mm_uI M 164 108 ((M.1 164 108) + 1)).1 164 107).toNatClampNeg x1).1 164 107) + 1)))) else (K M)) : mm_CV mX12_qOpens (d + 1) [.ref 164, .int x1, .int x2] M K := by
  show mm_W mX12_qOpens (d + 1) 0 0 0 [(0, .ref 164), (1, .int x1), (2, .int x2)] [] mm_SH M 0 0 (mm_PV K)
  refine mm_aload_n (pc := 0) (j := 0) dX12_qOpens_0 rfl rfl ?_
  refine mm_getI (pc := 1) (ci := 12) (N := 116) dX12_qOpens_1 fX12_260 sh_164 rfl ?_
  refine mm_if_eq (pc := 4) (tgt := 8) dX12_qOpens_4 (by decide) (fun hc => ?_) (fun hc => ?_)
  · have h := mm_ift hc h
    refine mm_aload_n (pc := 8) (j := 0) dX12_qOpens_8 rfl rfl ?_
    refine mm_getI (pc := 9) (ci := 12) (N := 116) dX12_qOpens_9 fX12_360 sh_164 rfl ?_
    refine mm_bipush (pc := 12) (x := 6) dX12_qOpens_12 rfl ?_
    refine mm_icmp_ne (pc := 14) (tgt := 24) dX12_qOpens_14 (by decide) (fun hc => ?_) (fun hc => ?_)
    · have h := mm_iff hc h
      refine mm_aload_n (pc := 24) (j := 0) dX12_qOpens_24 rfl rfl ?_
      refine mm_dup (pc := 25) dX12_qOpens_25 rfl ?_
      refine mm_getI (pc := 26) (ci := 12) (N := 116) dX12_qOpens_26 fX12_360 sh_164 rfl ?_
      refine mm_iconst (pc := 29) (x := 1) dX12_qOpens_29 rfl ?_
      refine mm_iadd (pc := 30) dX12_qOpens_30 ?_
      refine mm_putI (pc := 31) (ci := 12) (N := 116) dX12_qOpens_31 fX12_360 sh_164 (by decide +kernel) rfl rfl rfl ?_
      refine mm_aload_n (pc := 34) (j := 0) dX12_qOpens_34 rfl rfl ?_
      refine mm_getR (pc := 35) (ci := 12) (N := 116) (r := 240) dX12_qOpens_35 fX12_246 sh_164 rfl (g_164_106 hG) ?_
      refine mm_aload_n (pc := 38) (j := 0) dX12_qOpens_38 rfl rfl ?_
      refine mm_getI (pc := 39) (ci := 12) (N := 116) dX12_qOpens_39 fX12_357 sh_164 rfl ?_
      refine mm_iload_n (pc := 42) (j := 1) dX12_qOpens_42 rfl rfl ?_
      obtain ⟨hi43, h⟩ := h
      refine mm_iastore (pc := 43) (N := 1700) dX12_qOpens_43 sh_240 hi43 ?_
      refine mm_aload_n (pc := 44) (j := 0) dX12_qOpens_44 rfl rfl ?_
      refine mm_dup (pc := 45) dX12_qOpens_45 rfl ?_
      refine mm_getI (pc := 46) (ci := 12) (N := 116) dX12_qOpens_46 fX12_357 sh_164 rfl ?_
      refine mm_iconst (pc := 49) (x := 1) dX12_qOpens_49 rfl ?_
      refine mm_iadd (pc := 50) dX12_qOpens_50 ?_
      refine mm_putI (pc := 51) (ci := 12) (N := 116) dX12_qOpens_51 fX12_357 sh_164 (by decide +kernel) rfl rfl rfl ?_
      exact mm_vret (pc := 54) dX12_qOpens_54 rfl (Nat.le_refl 0) (Nat.le_refl 0) ⟨rfl, rfl, hG, h⟩
    · have h := mm_ift hc h
      refine mm_aload_n (pc := 17) (j := 0) dX12_qOpens_17 rfl rfl ?_
      refine mm_iconst (pc := 18) (x := 4) dX12_qOpens_18 rfl ?_
      refine mm_iload_n (pc := 19) (j := 2) dX12_qOpens_19 rfl rfl ?_
      refine mm_kVV (pc := 20) [.int 4, .int x2] dX12_qOpens_20 kX12_290 rfl sh_164 (Nat.le_of_ble_eq_true rfl) (Nat.le_of_ble_eq_true rfl) h (fun m20 hG h => ?_)
      exact mm_vret (pc := 23) dX12_qOpens_23 rfl (Nat.le_refl 0) (Nat.le_refl 0) ⟨rfl, rfl, hG, h⟩
  · have h := mm_iff hc h
    exact mm_vret (pc := 7) dX12_qOpens_7 rfl (Nat.le_refl 0) (Nat.le_refl 0) ⟨rfl, rfl, hG, h⟩
set_option maxRecDepth 100000 in
set_option maxHeartbeats 4000000 in
theorem rX12_qIsOn {d : Nat} {x1 : Int32} {M : mm_M} {K : Int32 → mm_M → Prop} (hG : mm_G M.2.2) (h : if (M.1 164 107) ≤ 0 then (K 0 M) else (vp_in ((M.1 164 107) - 1) 1700 ∧ if (M.1 240 ((M.1 164 107) - 1).toNatClampNeg) = x1 then (K 1 M) else (K 0 M))) : mm_CI mX12_qIsOn d [.ref 164, .int x1] M K := by
  show mm_W mX12_qIsOn d 0 0 0 [(0, .ref 164), (1, .int x1)] [] mm_SH M 0 0 (mm_PI K)
  refine mm_aload_n (pc := 0) (j := 0) dX12_qIsOn_0 rfl rfl ?_
  refine mm_getI (pc := 1) (ci := 12) (N := 116) dX12_qIsOn_1 fX12_357 sh_164 rfl ?_
  refine mm_if_le (pc := 4) (tgt := 26) dX12_qIsOn_4 (by decide) (fun hc => ?_) (fun hc => ?_)
  · have h := mm_ift hc h
    refine mm_iconst (pc := 26) (x := 0) dX12_qIsOn_26 rfl ?_
    exact mm_zret (pc := 27) dX12_qIsOn_27 rfl rfl (Nat.le_refl 0) (Nat.le_refl 0) ⟨_, rfl, rfl, hG, h⟩
  · have h := mm_iff hc h
    refine mm_aload_n (pc := 7) (j := 0) dX12_qIsOn_7 rfl rfl ?_
    refine mm_getR (pc := 8) (ci := 12) (N := 116) (r := 240) dX12_qIsOn_8 fX12_246 sh_164 rfl (g_164_106 hG) ?_
    refine mm_aload_n (pc := 11) (j := 0) dX12_qIsOn_11 rfl rfl ?_
    refine mm_getI (pc := 12) (ci := 12) (N := 116) dX12_qIsOn_12 fX12_357 sh_164 rfl ?_
    refine mm_iconst (pc := 15) (x := 1) dX12_qIsOn_15 rfl ?_
    refine mm_isub (pc := 16) dX12_qIsOn_16 ?_
    obtain ⟨hi17, h⟩ := h
    refine mm_iaload (pc := 17) (N := 1700) dX12_qIsOn_17 sh_240 hi17 ?_
    refine mm_iload_n (pc := 18) (j := 1) dX12_qIsOn_18 rfl rfl ?_
    refine mm_icmp_ne (pc := 19) (tgt := 26) dX12_qIsOn_19 (by decide) (fun hc => ?_) (fun hc => ?_)
    · have h := mm_iff hc h
      refine mm_iconst (pc := 26) (x := 0) dX12_qIsOn_26 rfl ?_
      exact mm_zret (pc := 27) dX12_qIsOn_27 rfl rfl (Nat.le_refl 0) (Nat.le_refl 0) ⟨_, rfl, rfl, hG, h⟩
    · have h := mm_ift hc h
      refine mm_iconst (pc := 22) (x := 1) dX12_qIsOn_22 rfl ?_
      refine mm_goto (pc := 23) (tgt := 27) dX12_qIsOn_23 (by decide) ?_
      exact mm_zret (pc := 27) dX12_qIsOn_27 rfl rfl (Nat.le_refl 0) (Nat.le_refl 0) ⟨_, rfl, rfl, hG, h⟩
set_option maxRecDepth 100000 in
set_option maxHeartbeats 4000000 in
theorem rX12_qDrops {d : Nat} {M : mm_M} {K : mm_M → Prop} (hG : mm_G M.2.2) (h : vp_in ((mm_uI M 164 107 ((M.1 164 107) - 1)).1 164 107) 1700 ∧ mm_CV mX12_qCode d [.ref 164, .int ((mm_uI M 164 107 ((M.1 164 107) - 1)).1 240 ((mm_uI M 164 107 ((M.1 164 107) - 1)).1 164 107).toNatClampNeg)] (mm_uI M 164 107 ((M.1 164 107) - 1)) (fun m20 => K m20)) : mm_CV mX12_qDrops (d + 1) [.ref 164] M K := by
  show mm_W mX12_qDrops (d + 1) 0 0 0 [(0, .ref 164)] [] mm_SH M 0 0 (mm_PV K)
  refine mm_aload_n (pc := 0) (j := 0) dX12_qDrops_0 rfl rfl ?_
  refine mm_dup (pc := 1) dX12_qDrops_1 rfl ?_
  refine mm_getI (pc := 2) (ci := 12) (N := 116) dX12_qDrops_2 fX12_357 sh_164 rfl ?_
  refine mm_iconst (pc := 5) (x := 1) dX12_qDrops_5 rfl ?_
  refine mm_isub (pc := 6) dX12_qDrops_6 ?_
  refine mm_putI (pc := 7) (ci := 12) (N := 116) dX12_qDrops_7 fX12_357 sh_164 (by decide +kernel) rfl rfl rfl ?_
  refine mm_aload_n (pc := 10) (j := 0) dX12_qDrops_10 rfl rfl ?_
  refine mm_aload_n (pc := 11) (j := 0) dX12_qDrops_11 rfl rfl ?_
  refine mm_getR (pc := 12) (ci := 12) (N := 116) (r := 240) dX12_qDrops_12 fX12_246 sh_164 rfl (g_164_106 hG) ?_
  refine mm_aload_n (pc := 15) (j := 0) dX12_qDrops_15 rfl rfl ?_
  refine mm_getI (pc := 16) (ci := 12) (N := 116) dX12_qDrops_16 fX12_357 sh_164 rfl ?_
  obtain ⟨hi19, h⟩ := h
  refine mm_iaload (pc := 19) (N := 1700) dX12_qDrops_19 sh_240 hi19 ?_
  refine mm_kVV (pc := 20) [.int ((mm_uI M 164 107 ((M.1 164 107) - 1)).1 240 ((mm_uI M 164 107 ((M.1 164 107) - 1)).1 164 107).toNatClampNeg)] dX12_qDrops_20 kX12_642 rfl sh_164 (Nat.le_of_ble_eq_true rfl) (Nat.le_of_ble_eq_true rfl) h (fun m20 hG h => ?_)
  exact mm_vret (pc := 23) dX12_qDrops_23 rfl (Nat.le_refl 0) (Nat.le_refl 0) ⟨rfl, rfl, hG, h⟩
set_option maxRecDepth 100000 in
set_option maxHeartbeats 4000000 in
theorem rX12_qIsBracket {d : Nat} {x0 : Int32} {M : mm_M} {K : Int32 → mm_M → Prop} (hG : mm_G M.2.2) (h : if x0 < 20 then (K 0 M) else (if 24 < x0 then (K 0 M) else (K 1 M))) : mm_CI mX12_qIsBracket d [.int x0] M K := by
  show mm_W mX12_qIsBracket d 0 0 0 [(0, .int x0)] [] mm_SH M 0 0 (mm_PI K)
  refine mm_iload_n (pc := 0) (j := 0) dX12_qIsBracket_0 rfl rfl ?_
  refine mm_bipush (pc := 1) (x := 20) dX12_qIsBracket_1 rfl ?_
  refine mm_icmp_lt (pc := 3) (tgt := 16) dX12_qIsBracket_3 (by decide) (fun hc => ?_) (fun hc => ?_)
  · have h := mm_ift hc h
    refine mm_iconst (pc := 16) (x := 0) dX12_qIsBracket_16 rfl ?_
    exact mm_zret (pc := 17) dX12_qIsBracket_17 rfl rfl (Nat.le_refl 0) (Nat.le_refl 0) ⟨_, rfl, rfl, hG, h⟩
  · have h := mm_iff hc h
    refine mm_iload_n (pc := 6) (j := 0) dX12_qIsBracket_6 rfl rfl ?_
    refine mm_bipush (pc := 7) (x := 24) dX12_qIsBracket_7 rfl ?_
    refine mm_icmp_gt (pc := 9) (tgt := 16) dX12_qIsBracket_9 (by decide) (fun hc => ?_) (fun hc => ?_)
    · have h := mm_ift hc h
      refine mm_iconst (pc := 16) (x := 0) dX12_qIsBracket_16 rfl ?_
      exact mm_zret (pc := 17) dX12_qIsBracket_17 rfl rfl (Nat.le_refl 0) (Nat.le_refl 0) ⟨_, rfl, rfl, hG, h⟩
    · have h := mm_iff hc h
      refine mm_iconst (pc := 12) (x := 1) dX12_qIsBracket_12 rfl ?_
      refine mm_goto (pc := 13) (tgt := 17) dX12_qIsBracket_13 (by decide) ?_
      exact mm_zret (pc := 17) dX12_qIsBracket_17 rfl rfl (Nat.le_refl 0) (Nat.le_refl 0) ⟨_, rfl, rfl, hG, h⟩
def jX12_qBracket_7 (d : Nat) (M : mm_M) (K : Int32 → mm_M → Prop) (y1 : Int32) : Prop := mm_W mX12_qBracket (d + 1) 0 0 7 [(0, .ref 164), (1, .int y1)] [] mm_SH M 0 0 (mm_PI K)
set_option maxRecDepth 100000 in
set_option maxHeartbeats 4000000 in
theorem rX12_qBracket {d : Nat} {M : mm_M} {K : Int32 → mm_M → Prop} (hG : mm_G M.2.2) (h : jX12_qBracket_7 d M K ((M.1 164 107) - 1)) : mm_CI mX12_qBracket (d + 1) [.ref 164] M K := by
  show mm_W mX12_qBracket (d + 1) 0 0 0 [(0, .ref 164)] [] mm_SH M 0 0 (mm_PI K)
  refine mm_aload_n (pc := 0) (j := 0) dX12_qBracket_0 rfl rfl ?_
  refine mm_getI (pc := 1) (ci := 12) (N := 116) dX12_qBracket_1 fX12_357 sh_164 rfl ?_
  refine mm_iconst (pc := 4) (x := 1) dX12_qBracket_4 rfl ?_
  refine mm_isub (pc := 5) dX12_qBracket_5 ?_
  refine mm_istore_n (pc := 6) (lv' := [(1, .int ((M.1 164 107) - 1)), (0, .ref 164)]) dX12_qBracket_6 rfl (by decide) rfl ?_
  exact mm_sub [1, 0] rfl h
set_option maxRecDepth 100000 in
set_option maxHeartbeats 4000000 in
theorem lX12_qBracket_7 {d : Nat} {M : mm_M} {K : Int32 → mm_M → Prop} {y1 : Int32} (hG : mm_G M.2.2) (h : if y1 < (M.1 164 109) then (if y1 < (M.1 164 109) then (K (-1) M) else (vp_in y1 1700 ∧ K (M.1 240 y1.toNatClampNeg) M)) else (vp_in y1 1700 ∧ mm_CI mX12_qIsBracket d [.int (M.1 240 y1.toNatClampNeg)] M (fun z21 m21 => if z21 = 0 then (jX12_qBracket_7 d m21 K (y1 + (-1))) else (if y1 < (m21.1 164 109) then (K (-1) m21) else (vp_in y1 1700 ∧ K (m21.1 240 y1.toNatClampNeg) m21))))) : jX12_qBracket_7 d  M K y1 := by
  unfold jX12_qBracket_7
  refine mm_iload_n (pc := 7) (j := 1) dX12_qBracket_7 rfl rfl ?_
  refine mm_aload_n (pc := 8) (j := 0) dX12_qBracket_8 rfl rfl ?_
  refine mm_getI (pc := 9) (ci := 12) (N := 116) dX12_qBracket_9 fX12_363 sh_164 rfl ?_
  refine mm_icmp_lt (pc := 12) (tgt := 33) dX12_qBracket_12 (by decide) (fun hc => ?_) (fun hc => ?_)
  · have h := mm_ift hc h
    refine mm_iload_n (pc := 33) (j := 1) dX12_qBracket_33 rfl rfl ?_
    refine mm_aload_n (pc := 34) (j := 0) dX12_qBracket_34 rfl rfl ?_
    refine mm_getI (pc := 35) (ci := 12) (N := 116) dX12_qBracket_35 fX12_363 sh_164 rfl ?_
    refine mm_icmp_lt (pc := 38) (tgt := 50) dX12_qBracket_38 (by decide) (fun hc => ?_) (fun hc => ?_)
    · have h := mm_ift hc h
      refine mm_iconst (pc := 50) (x := (-1)) dX12_qBracket_50 rfl ?_
      exact mm_iret (pc := 51) dX12_qBracket_51 rfl (Nat.le_refl 0) (Nat.le_refl 0) ⟨_, rfl, rfl, hG, h⟩
    · have h := mm_iff hc h
      refine mm_aload_n (pc := 41) (j := 0) dX12_qBracket_41 rfl rfl ?_
      refine mm_getR (pc := 42) (ci := 12) (N := 116) (r := 240) dX12_qBracket_42 fX12_246 sh_164 rfl (g_164_106 hG) ?_
      refine mm_iload_n (pc := 45) (j := 1) dX12_qBracket_45 rfl rfl ?_
      obtain ⟨hi46, h⟩ := h
      refine mm_iaload (pc := 46) (N := 1700) dX12_qBracket_46 sh_240 hi46 ?_
      refine mm_goto (pc := 47) (tgt := 51) dX12_qBracket_47 (by decide) ?_
      exact mm_iret (pc := 51) dX12_qBracket_51 rfl (Nat.le_refl 0) (Nat.le_refl 0) ⟨_, rfl, rfl, hG, h⟩
  · have h := mm_iff hc h
    refine mm_aload_n (pc := 15) (j := 0) dX12_qBracket_15 rfl rfl ?_
    refine mm_getR (pc := 16) (ci := 12) (N := 116) (r := 240) dX12_qBracket_16 fX12_246 sh_164 rfl (g_164_106 hG) ?_
    refine mm_iload_n (pc := 19) (j := 1) dX12_qBracket_19 rfl rfl ?_
    obtain ⟨hi20, h⟩ := h
    refine mm_iaload (pc := 20) (N := 1700) dX12_qBracket_20 sh_240 hi20 ?_
    refine mm_kSI (pc := 21) [.int (M.1 240 y1.toNatClampNeg)] dX12_qBracket_21 kX12_645 rfl (Nat.le_of_ble_eq_true rfl) (Nat.le_of_ble_eq_true rfl) h (fun z21 m21 hG h => ?_)
    refine mm_if_ne (pc := 24) (tgt := 33) dX12_qBracket_24 (by decide) (fun hc => ?_) (fun hc => ?_)
    · have h := mm_iff hc h
      refine mm_iload_n (pc := 33) (j := 1) dX12_qBracket_33 rfl rfl ?_
      refine mm_aload_n (pc := 34) (j := 0) dX12_qBracket_34 rfl rfl ?_
      refine mm_getI (pc := 35) (ci := 12) (N := 116) dX12_qBracket_35 fX12_363 sh_164 rfl ?_
      refine mm_icmp_lt (pc := 38) (tgt := 50) dX12_qBracket_38 (by decide) (fun hc => ?_) (fun hc => ?_)
      · have h := mm_ift hc h
        refine mm_iconst (pc := 50) (x := (-1)) dX12_qBracket_50 rfl ?_
        exact mm_iret (pc := 51) dX12_qBracket_51 rfl (Nat.le_refl 0) (Nat.le_refl 0) ⟨_, rfl, rfl, hG, h⟩
      · have h := mm_iff hc h
        refine mm_aload_n (pc := 41) (j := 0) dX12_qBracket_41 rfl rfl ?_
        refine mm_getR (pc := 42) (ci := 12) (N := 116) (r := 240) dX12_qBracket_42 fX12_246 sh_164 rfl (g_164_106 hG) ?_
        refine mm_iload_n (pc := 45) (j := 1) dX12_qBracket_45 rfl rfl ?_
        obtain ⟨hi46, h⟩ := h
        refine mm_iaload (pc := 46) (N := 1700) dX12_qBracket_46 sh_240 hi46 ?_
        refine mm_goto (pc := 47) (tgt := 51) dX12_qBracket_47 (by decide) ?_
        exact mm_iret (pc := 51) dX12_qBracket_51 rfl (Nat.le_refl 0) (Nat.le_refl 0) ⟨_, rfl, rfl, hG, h⟩
    · have h := mm_ift hc h
      refine mm_iinc (pc := 27) (j := 1) (v := y1 + (-1)) (lv' := [(1, .int (y1 + (-1))), (0, .ref 164)]) dX12_qBracket_27 rfl rfl (by decide) rfl ?_
      refine mm_goto (pc := 30) (tgt := 7) dX12_qBracket_30 (by decide) ?_
      exact mm_sub [1, 0] rfl h
def jX12_qDropsToBracket_0 (d : Nat) (M : mm_M) (K : mm_M → Prop) : Prop := mm_W mX12_qDropsToBracket (d + 1) 0 0 0 [(0, .ref 164)] [] mm_SH M 0 0 (mm_PV K)
set_option maxRecDepth 100000 in
set_option maxHeartbeats 4000000 in
theorem rX12_qDropsToBracket {d : Nat} {M : mm_M} {K : mm_M → Prop} (hG : mm_G M.2.2) (h : if (M.1 164 107) ≤ (M.1 164 109) then (K M) else (vp_in ((M.1 164 107) - 1) 1700 ∧ mm_CI mX12_qIsBracket d [.int (M.1 240 ((M.1 164 107) - 1).toNatClampNeg)] M (fun z22 m22 => if z22 = 0 then (mm_CV mX12_qDrops d [.ref 164] m22 (fun m29 => jX12_qDropsToBracket_0 d m29 K)) else (K m22)))) : mm_CV mX12_qDropsToBracket (d + 1) [.ref 164] M K := by
  show mm_W mX12_qDropsToBracket (d + 1) 0 0 0 [(0, .ref 164)] [] mm_SH M 0 0 (mm_PV K)
  refine mm_aload_n (pc := 0) (j := 0) dX12_qDropsToBracket_0 rfl rfl ?_
  refine mm_getI (pc := 1) (ci := 12) (N := 116) dX12_qDropsToBracket_1 fX12_357 sh_164 rfl ?_
  refine mm_aload_n (pc := 4) (j := 0) dX12_qDropsToBracket_4 rfl rfl ?_
  refine mm_getI (pc := 5) (ci := 12) (N := 116) dX12_qDropsToBracket_5 fX12_363 sh_164 rfl ?_
  refine mm_icmp_le (pc := 8) (tgt := 35) dX12_qDropsToBracket_8 (by decide) (fun hc => ?_) (fun hc => ?_)
  · have h := mm_ift hc h
    exact mm_vret (pc := 35) dX12_qDropsToBracket_35 rfl (Nat.le_refl 0) (Nat.le_refl 0) ⟨rfl, rfl, hG, h⟩
  · have h := mm_iff hc h
    refine mm_aload_n (pc := 11) (j := 0) dX12_qDropsToBracket_11 rfl rfl ?_
    refine mm_getR (pc := 12) (ci := 12) (N := 116) (r := 240) dX12_qDropsToBracket_12 fX12_246 sh_164 rfl (g_164_106 hG) ?_
    refine mm_aload_n (pc := 15) (j := 0) dX12_qDropsToBracket_15 rfl rfl ?_
    refine mm_getI (pc := 16) (ci := 12) (N := 116) dX12_qDropsToBracket_16 fX12_357 sh_164 rfl ?_
    refine mm_iconst (pc := 19) (x := 1) dX12_qDropsToBracket_19 rfl ?_
    refine mm_isub (pc := 20) dX12_qDropsToBracket_20 ?_
    obtain ⟨hi21, h⟩ := h
    refine mm_iaload (pc := 21) (N := 1700) dX12_qDropsToBracket_21 sh_240 hi21 ?_
    refine mm_kSI (pc := 22) [.int (M.1 240 ((M.1 164 107) - 1).toNatClampNeg)] dX12_qDropsToBracket_22 kX12_645 rfl (Nat.le_of_ble_eq_true rfl) (Nat.le_of_ble_eq_true rfl) h (fun z22 m22 hG h => ?_)
    refine mm_if_ne (pc := 25) (tgt := 35) dX12_qDropsToBracket_25 (by decide) (fun hc => ?_) (fun hc => ?_)
    · have h := mm_iff hc h
      exact mm_vret (pc := 35) dX12_qDropsToBracket_35 rfl (Nat.le_refl 0) (Nat.le_refl 0) ⟨rfl, rfl, hG, h⟩
    · have h := mm_ift hc h
      refine mm_aload_n (pc := 28) (j := 0) dX12_qDropsToBracket_28 rfl rfl ?_
      refine mm_kVV (pc := 29) [] dX12_qDropsToBracket_29 kX12_648 rfl sh_164 (Nat.le_of_ble_eq_true rfl) (Nat.le_of_ble_eq_true rfl) h (fun m29 hG h => ?_)
      refine mm_goto (pc := 32) (tgt := 0) dX12_qDropsToBracket_32 (by decide) ?_
      exact h
set_option maxRecDepth 100000 in
set_option maxHeartbeats 4000000 in
theorem lX12_qDropsToBracket_0 {d : Nat} {M : mm_M} {K : mm_M → Prop} (hG : mm_G M.2.2) (h : if (M.1 164 107) ≤ (M.1 164 109) then (K M) else (vp_in ((M.1 164 107) - 1) 1700 ∧ mm_CI mX12_qIsBracket d [.int (M.1 240 ((M.1 164 107) - 1).toNatClampNeg)] M (fun z22 m22 => if z22 = 0 then (mm_CV mX12_qDrops d [.ref 164] m22 (fun m29 => jX12_qDropsToBracket_0 d m29 K)) else (K m22)))) : jX12_qDropsToBracket_0 d  M K  := by
  unfold jX12_qDropsToBracket_0
  refine mm_aload_n (pc := 0) (j := 0) dX12_qDropsToBracket_0 rfl rfl ?_
  refine mm_getI (pc := 1) (ci := 12) (N := 116) dX12_qDropsToBracket_1 fX12_357 sh_164 rfl ?_
  refine mm_aload_n (pc := 4) (j := 0) dX12_qDropsToBracket_4 rfl rfl ?_
  refine mm_getI (pc := 5) (ci := 12) (N := 116) dX12_qDropsToBracket_5 fX12_363 sh_164 rfl ?_
  refine mm_icmp_le (pc := 8) (tgt := 35) dX12_qDropsToBracket_8 (by decide) (fun hc => ?_) (fun hc => ?_)
  · have h := mm_ift hc h
    exact mm_vret (pc := 35) dX12_qDropsToBracket_35 rfl (Nat.le_refl 0) (Nat.le_refl 0) ⟨rfl, rfl, hG, h⟩
  · have h := mm_iff hc h
    refine mm_aload_n (pc := 11) (j := 0) dX12_qDropsToBracket_11 rfl rfl ?_
    refine mm_getR (pc := 12) (ci := 12) (N := 116) (r := 240) dX12_qDropsToBracket_12 fX12_246 sh_164 rfl (g_164_106 hG) ?_
    refine mm_aload_n (pc := 15) (j := 0) dX12_qDropsToBracket_15 rfl rfl ?_
    refine mm_getI (pc := 16) (ci := 12) (N := 116) dX12_qDropsToBracket_16 fX12_357 sh_164 rfl ?_
    refine mm_iconst (pc := 19) (x := 1) dX12_qDropsToBracket_19 rfl ?_
    refine mm_isub (pc := 20) dX12_qDropsToBracket_20 ?_
    obtain ⟨hi21, h⟩ := h
    refine mm_iaload (pc := 21) (N := 1700) dX12_qDropsToBracket_21 sh_240 hi21 ?_
    refine mm_kSI (pc := 22) [.int (M.1 240 ((M.1 164 107) - 1).toNatClampNeg)] dX12_qDropsToBracket_22 kX12_645 rfl (Nat.le_of_ble_eq_true rfl) (Nat.le_of_ble_eq_true rfl) h (fun z22 m22 hG h => ?_)
    refine mm_if_ne (pc := 25) (tgt := 35) dX12_qDropsToBracket_25 (by decide) (fun hc => ?_) (fun hc => ?_)
    · have h := mm_iff hc h
      exact mm_vret (pc := 35) dX12_qDropsToBracket_35 rfl (Nat.le_refl 0) (Nat.le_refl 0) ⟨rfl, rfl, hG, h⟩
    · have h := mm_ift hc h
      refine mm_aload_n (pc := 28) (j := 0) dX12_qDropsToBracket_28 rfl rfl ?_
      refine mm_kVV (pc := 29) [] dX12_qDropsToBracket_29 kX12_648 rfl sh_164 (Nat.le_of_ble_eq_true rfl) (Nat.le_of_ble_eq_true rfl) h (fun m29 hG h => ?_)
      refine mm_goto (pc := 32) (tgt := 0) dX12_qDropsToBracket_32 (by decide) ?_
      exact h
def jX12_qWordHere_73 (d : Nat) (M : mm_M) (K : Int32 → mm_M → Prop) : Prop := mm_W mX12_qWordHere (d + 1) 0 0 73 [(0, .ref 164)] [] mm_SH M 0 0 (mm_PI K)
set_option maxRecDepth 100000 in
set_option maxHeartbeats 4000000 in
theorem rX12_qWordHere {d : Nat} {M : mm_M} {K : Int32 → mm_M → Prop} (hG : mm_G M.2.2) (h : mm_CI mX12_isHere d [.ref 164, .ref 229] M (fun z5 m5 => if z5 = 0 then (mm_CI mX12_isHere d [.ref 164, .ref 230] m5 (fun z18 m18 => if z18 = 0 then (mm_CI mX12_isHere d [.ref 164, .ref 231] m18 (fun z31 m31 => if z31 = 0 then (mm_CI mX12_isHere d [.ref 164, .ref 232] m31 (fun z44 m44 => if z44 = 0 then (if 3 ≤ (m44.1 164 49) then (jX12_qWordHere_73 d m44 K) else (mm_CI mX12_isHere d [.ref 164, .ref 233] m44 (fun z65 m65 => if z65 = 0 then (jX12_qWordHere_73 d m65 K) else (K 4 m65)))) else (K 3 m44))) else (K 2 m31))) else (K 1 m18))) else (K 0 m5))) : mm_CI mX12_qWordHere (d + 1) [.ref 164] M K := by
  show mm_W mX12_qWordHere (d + 1) 0 0 0 [(0, .ref 164)] [] mm_SH M 0 0 (mm_PI K)
  refine mm_aload_n (pc := 0) (j := 0) dX12_qWordHere_0 rfl rfl ?_
  refine mm_aload_n (pc := 1) (j := 0) dX12_qWordHere_1 rfl rfl ?_
  refine mm_getR (pc := 2) (ci := 12) (N := 116) (r := 229) dX12_qWordHere_2 fX12_213 sh_164 rfl (g_164_94 hG) ?_
  refine mm_kVI (pc := 5) [.ref 229] dX12_qWordHere_5 kX12_283 rfl sh_164 (Nat.le_of_ble_eq_true rfl) (Nat.le_of_ble_eq_true rfl) h (fun z5 m5 hG h => ?_)
  refine mm_if_eq (pc := 8) (tgt := 13) dX12_qWordHere_8 (by decide) (fun hc => ?_) (fun hc => ?_)
  · have h := mm_ift hc h
    refine mm_aload_n (pc := 13) (j := 0) dX12_qWordHere_13 rfl rfl ?_
    refine mm_aload_n (pc := 14) (j := 0) dX12_qWordHere_14 rfl rfl ?_
    refine mm_getR (pc := 15) (ci := 12) (N := 116) (r := 230) dX12_qWordHere_15 fX12_216 sh_164 rfl (g_164_95 hG) ?_
    refine mm_kVI (pc := 18) [.ref 230] dX12_qWordHere_18 kX12_283 rfl sh_164 (Nat.le_of_ble_eq_true rfl) (Nat.le_of_ble_eq_true rfl) h (fun z18 m18 hG h => ?_)
    refine mm_if_eq (pc := 21) (tgt := 26) dX12_qWordHere_21 (by decide) (fun hc => ?_) (fun hc => ?_)
    · have h := mm_ift hc h
      refine mm_aload_n (pc := 26) (j := 0) dX12_qWordHere_26 rfl rfl ?_
      refine mm_aload_n (pc := 27) (j := 0) dX12_qWordHere_27 rfl rfl ?_
      refine mm_getR (pc := 28) (ci := 12) (N := 116) (r := 231) dX12_qWordHere_28 fX12_219 sh_164 rfl (g_164_96 hG) ?_
      refine mm_kVI (pc := 31) [.ref 231] dX12_qWordHere_31 kX12_283 rfl sh_164 (Nat.le_of_ble_eq_true rfl) (Nat.le_of_ble_eq_true rfl) h (fun z31 m31 hG h => ?_)
      refine mm_if_eq (pc := 34) (tgt := 39) dX12_qWordHere_34 (by decide) (fun hc => ?_) (fun hc => ?_)
      · have h := mm_ift hc h
        refine mm_aload_n (pc := 39) (j := 0) dX12_qWordHere_39 rfl rfl ?_
        refine mm_aload_n (pc := 40) (j := 0) dX12_qWordHere_40 rfl rfl ?_
        refine mm_getR (pc := 41) (ci := 12) (N := 116) (r := 232) dX12_qWordHere_41 fX12_222 sh_164 rfl (g_164_97 hG) ?_
        refine mm_kVI (pc := 44) [.ref 232] dX12_qWordHere_44 kX12_283 rfl sh_164 (Nat.le_of_ble_eq_true rfl) (Nat.le_of_ble_eq_true rfl) h (fun z44 m44 hG h => ?_)
        refine mm_if_eq (pc := 47) (tgt := 52) dX12_qWordHere_47 (by decide) (fun hc => ?_) (fun hc => ?_)
        · have h := mm_ift hc h
          refine mm_aload_n (pc := 52) (j := 0) dX12_qWordHere_52 rfl rfl ?_
          refine mm_getI (pc := 53) (ci := 12) (N := 116) dX12_qWordHere_53 fX12_318 sh_164 rfl ?_
          refine mm_iconst (pc := 56) (x := 3) dX12_qWordHere_56 rfl ?_
          refine mm_icmp_ge (pc := 57) (tgt := 73) dX12_qWordHere_57 (by decide) (fun hc => ?_) (fun hc => ?_)
          · have h := mm_ift hc h
            exact h
          · have h := mm_iff hc h
            refine mm_aload_n (pc := 60) (j := 0) dX12_qWordHere_60 rfl rfl ?_
            refine mm_aload_n (pc := 61) (j := 0) dX12_qWordHere_61 rfl rfl ?_
            refine mm_getR (pc := 62) (ci := 12) (N := 116) (r := 233) dX12_qWordHere_62 fX12_225 sh_164 rfl (g_164_98 hG) ?_
            refine mm_kVI (pc := 65) [.ref 233] dX12_qWordHere_65 kX12_283 rfl sh_164 (Nat.le_of_ble_eq_true rfl) (Nat.le_of_ble_eq_true rfl) h (fun z65 m65 hG h => ?_)
            refine mm_if_eq (pc := 68) (tgt := 73) dX12_qWordHere_68 (by decide) (fun hc => ?_) (fun hc => ?_)
            · have h := mm_ift hc h
              exact h
            · have h := mm_iff hc h
              refine mm_iconst (pc := 71) (x := 4) dX12_qWordHere_71 rfl ?_
              exact mm_iret (pc := 72) dX12_qWordHere_72 rfl (Nat.le_refl 0) (Nat.le_refl 0) ⟨_, rfl, rfl, hG, h⟩
        · have h := mm_iff hc h
          refine mm_iconst (pc := 50) (x := 3) dX12_qWordHere_50 rfl ?_
          exact mm_iret (pc := 51) dX12_qWordHere_51 rfl (Nat.le_refl 0) (Nat.le_refl 0) ⟨_, rfl, rfl, hG, h⟩
      · have h := mm_iff hc h
        refine mm_iconst (pc := 37) (x := 2) dX12_qWordHere_37 rfl ?_
        exact mm_iret (pc := 38) dX12_qWordHere_38 rfl (Nat.le_refl 0) (Nat.le_refl 0) ⟨_, rfl, rfl, hG, h⟩
    · have h := mm_iff hc h
      refine mm_iconst (pc := 24) (x := 1) dX12_qWordHere_24 rfl ?_
      exact mm_iret (pc := 25) dX12_qWordHere_25 rfl (Nat.le_refl 0) (Nat.le_refl 0) ⟨_, rfl, rfl, hG, h⟩
  · have h := mm_iff hc h
    refine mm_iconst (pc := 11) (x := 0) dX12_qWordHere_11 rfl ?_
    exact mm_iret (pc := 12) dX12_qWordHere_12 rfl (Nat.le_refl 0) (Nat.le_refl 0) ⟨_, rfl, rfl, hG, h⟩
set_option maxRecDepth 100000 in
set_option maxHeartbeats 4000000 in
theorem lX12_qWordHere_73 {d : Nat} {M : mm_M} {K : Int32 → mm_M → Prop} (hG : mm_G M.2.2) (h : mm_CI mX12_isHere d [.ref 164, .ref 234] M (fun z78 m78 => if z78 = 0 then (mm_CI mX12_isHere d [.ref 164, .ref 235] m78 (fun z91 m91 => if z91 = 0 then (mm_CI mX12_isHere d [.ref 164, .ref 236] m91 (fun z105 m105 => if z105 = 0 then (mm_CI mX12_isHere d [.ref 164, .ref 237] m105 (fun z119 m119 => if z119 = 0 then (mm_CI mX12_isHere d [.ref 164, .ref 238] m119 (fun z133 m133 => if z133 = 0 then (K (-1) m133) else (K 9 m133))) else (K 8 m119))) else (K 7 m105))) else (K 6 m91))) else (K 5 m78))) : jX12_qWordHere_73 d  M K  := by
  unfold jX12_qWordHere_73
  refine mm_aload_n (pc := 73) (j := 0) dX12_qWordHere_73 rfl rfl ?_
  refine mm_aload_n (pc := 74) (j := 0) dX12_qWordHere_74 rfl rfl ?_
  refine mm_getR (pc := 75) (ci := 12) (N := 116) (r := 234) dX12_qWordHere_75 fX12_228 sh_164 rfl (g_164_99 hG) ?_
  refine mm_kVI (pc := 78) [.ref 234] dX12_qWordHere_78 kX12_283 rfl sh_164 (Nat.le_of_ble_eq_true rfl) (Nat.le_of_ble_eq_true rfl) h (fun z78 m78 hG h => ?_)
  refine mm_if_eq (pc := 81) (tgt := 86) dX12_qWordHere_81 (by decide) (fun hc => ?_) (fun hc => ?_)
  · have h := mm_ift hc h
    refine mm_aload_n (pc := 86) (j := 0) dX12_qWordHere_86 rfl rfl ?_
    refine mm_aload_n (pc := 87) (j := 0) dX12_qWordHere_87 rfl rfl ?_
    refine mm_getR (pc := 88) (ci := 12) (N := 116) (r := 235) dX12_qWordHere_88 fX12_231 sh_164 rfl (g_164_100 hG) ?_
    refine mm_kVI (pc := 91) [.ref 235] dX12_qWordHere_91 kX12_283 rfl sh_164 (Nat.le_of_ble_eq_true rfl) (Nat.le_of_ble_eq_true rfl) h (fun z91 m91 hG h => ?_)
    refine mm_if_eq (pc := 94) (tgt := 100) dX12_qWordHere_94 (by decide) (fun hc => ?_) (fun hc => ?_)
    · have h := mm_ift hc h
      refine mm_aload_n (pc := 100) (j := 0) dX12_qWordHere_100 rfl rfl ?_
      refine mm_aload_n (pc := 101) (j := 0) dX12_qWordHere_101 rfl rfl ?_
      refine mm_getR (pc := 102) (ci := 12) (N := 116) (r := 236) dX12_qWordHere_102 fX12_234 sh_164 rfl (g_164_101 hG) ?_
      refine mm_kVI (pc := 105) [.ref 236] dX12_qWordHere_105 kX12_283 rfl sh_164 (Nat.le_of_ble_eq_true rfl) (Nat.le_of_ble_eq_true rfl) h (fun z105 m105 hG h => ?_)
      refine mm_if_eq (pc := 108) (tgt := 114) dX12_qWordHere_108 (by decide) (fun hc => ?_) (fun hc => ?_)
      · have h := mm_ift hc h
        refine mm_aload_n (pc := 114) (j := 0) dX12_qWordHere_114 rfl rfl ?_
        refine mm_aload_n (pc := 115) (j := 0) dX12_qWordHere_115 rfl rfl ?_
        refine mm_getR (pc := 116) (ci := 12) (N := 116) (r := 237) dX12_qWordHere_116 fX12_237 sh_164 rfl (g_164_102 hG) ?_
        refine mm_kVI (pc := 119) [.ref 237] dX12_qWordHere_119 kX12_283 rfl sh_164 (Nat.le_of_ble_eq_true rfl) (Nat.le_of_ble_eq_true rfl) h (fun z119 m119 hG h => ?_)
        refine mm_if_eq (pc := 122) (tgt := 128) dX12_qWordHere_122 (by decide) (fun hc => ?_) (fun hc => ?_)
        · have h := mm_ift hc h
          refine mm_aload_n (pc := 128) (j := 0) dX12_qWordHere_128 rfl rfl ?_
          refine mm_aload_n (pc := 129) (j := 0) dX12_qWordHere_129 rfl rfl ?_
          refine mm_getR (pc := 130) (ci := 12) (N := 116) (r := 238) dX12_qWordHere_130 fX12_240 sh_164 rfl (g_164_103 hG) ?_
          refine mm_kVI (pc := 133) [.ref 238] dX12_qWordHere_133 kX12_283 rfl sh_164 (Nat.le_of_ble_eq_true rfl) (Nat.le_of_ble_eq_true rfl) h (fun z133 m133 hG h => ?_)
          refine mm_if_eq (pc := 136) (tgt := 142) dX12_qWordHere_136 (by decide) (fun hc => ?_) (fun hc => ?_)
          · have h := mm_ift hc h
            refine mm_iconst (pc := 142) (x := (-1)) dX12_qWordHere_142 rfl ?_
            exact mm_iret (pc := 143) dX12_qWordHere_143 rfl (Nat.le_refl 0) (Nat.le_refl 0) ⟨_, rfl, rfl, hG, h⟩
          · have h := mm_iff hc h
            refine mm_bipush (pc := 139) (x := 9) dX12_qWordHere_139 rfl ?_
            exact mm_iret (pc := 141) dX12_qWordHere_141 rfl (Nat.le_refl 0) (Nat.le_refl 0) ⟨_, rfl, rfl, hG, h⟩
        · have h := mm_iff hc h
          refine mm_bipush (pc := 125) (x := 8) dX12_qWordHere_125 rfl ?_
          exact mm_iret (pc := 127) dX12_qWordHere_127 rfl (Nat.le_refl 0) (Nat.le_refl 0) ⟨_, rfl, rfl, hG, h⟩
      · have h := mm_iff hc h
        refine mm_bipush (pc := 111) (x := 7) dX12_qWordHere_111 rfl ?_
        exact mm_iret (pc := 113) dX12_qWordHere_113 rfl (Nat.le_refl 0) (Nat.le_refl 0) ⟨_, rfl, rfl, hG, h⟩
    · have h := mm_iff hc h
      refine mm_bipush (pc := 97) (x := 6) dX12_qWordHere_97 rfl ?_
      exact mm_iret (pc := 99) dX12_qWordHere_99 rfl (Nat.le_refl 0) (Nat.le_refl 0) ⟨_, rfl, rfl, hG, h⟩
  · have h := mm_iff hc h
    refine mm_iconst (pc := 84) (x := 5) dX12_qWordHere_84 rfl ?_
    exact mm_iret (pc := 85) dX12_qWordHere_85 rfl (Nat.le_refl 0) (Nat.le_refl 0) ⟨_, rfl, rfl, hG, h⟩
set_option maxRecDepth 100000 in
set_option maxHeartbeats 4000000 in
theorem rX12_qWordOf {d : Nat} {x1 : Int32} {x2 : Int32} {M : mm_M} {K : Int32 → mm_M → Prop} (hG : mm_G M.2.2) (h : mm_CI mX12_qWordHere d [.ref 164] M (fun z1 m1 => if z1 < x1 then (K (-1) m1) else (if x2 ≤ z1 then (K (-1) m1) else (mm_CI mX12_isAllowed d [.ref 164, .int z1] m1 (fun z17 m17 => if z17 = 0 then (K (-1) m17) else (K z1 m17)))))) : mm_CI mX12_qWordOf (d + 1) [.ref 164, .int x1, .int x2] M K := by
  show mm_W mX12_qWordOf (d + 1) 0 0 0 [(0, .ref 164), (1, .int x1), (2, .int x2)] [] mm_SH M 0 0 (mm_PI K)
  refine mm_aload_n (pc := 0) (j := 0) dX12_qWordOf_0 rfl rfl ?_
  refine mm_kVI (pc := 1) [] dX12_qWordOf_1 kX12_651 rfl sh_164 (Nat.le_of_ble_eq_true rfl) (Nat.le_of_ble_eq_true rfl) h (fun z1 m1 hG h => ?_)
  refine mm_istore_n (pc := 4) (lv' := [(3, .int z1), (0, .ref 164), (1, .int x1), (2, .int x2)]) dX12_qWordOf_4 rfl (by decide) rfl ?_
  refine mm_iload_n (pc := 5) (j := 0) dX12_qWordOf_5 rfl rfl ?_
  refine mm_iload_n (pc := 6) (j := 2) dX12_qWordOf_6 rfl rfl ?_
  refine mm_icmp_lt (pc := 7) (tgt := 27) dX12_qWordOf_7 (by decide) (fun hc => ?_) (fun hc => ?_)
  · have h := mm_ift hc h
    refine mm_iconst (pc := 27) (x := (-1)) dX12_qWordOf_27 rfl ?_
    exact mm_iret (pc := 28) dX12_qWordOf_28 rfl (Nat.le_refl 0) (Nat.le_refl 0) ⟨_, rfl, rfl, hG, h⟩
  · have h := mm_iff hc h
    refine mm_iload_n (pc := 10) (j := 0) dX12_qWordOf_10 rfl rfl ?_
    refine mm_iload_n (pc := 11) (j := 3) dX12_qWordOf_11 rfl rfl ?_
    refine mm_icmp_ge (pc := 12) (tgt := 27) dX12_qWordOf_12 (by decide) (fun hc => ?_) (fun hc => ?_)
    · have h := mm_ift hc h
      refine mm_iconst (pc := 27) (x := (-1)) dX12_qWordOf_27 rfl ?_
      exact mm_iret (pc := 28) dX12_qWordOf_28 rfl (Nat.le_refl 0) (Nat.le_refl 0) ⟨_, rfl, rfl, hG, h⟩
    · have h := mm_iff hc h
      refine mm_aload_n (pc := 15) (j := 1) dX12_qWordOf_15 rfl rfl ?_
      refine mm_iload_n (pc := 16) (j := 0) dX12_qWordOf_16 rfl rfl ?_
      refine mm_kVI (pc := 17) [.int z1] dX12_qWordOf_17 kX12_654 rfl sh_164 (Nat.le_of_ble_eq_true rfl) (Nat.le_of_ble_eq_true rfl) h (fun z17 m17 hG h => ?_)
      refine mm_if_eq (pc := 20) (tgt := 27) dX12_qWordOf_20 (by decide) (fun hc => ?_) (fun hc => ?_)
      · have h := mm_ift hc h
        refine mm_iconst (pc := 27) (x := (-1)) dX12_qWordOf_27 rfl ?_
        exact mm_iret (pc := 28) dX12_qWordOf_28 rfl (Nat.le_refl 0) (Nat.le_refl 0) ⟨_, rfl, rfl, hG, h⟩
      · have h := mm_iff hc h
        refine mm_iload_n (pc := 23) (j := 0) dX12_qWordOf_23 rfl rfl ?_
        refine mm_goto (pc := 24) (tgt := 28) dX12_qWordOf_24 (by decide) ?_
        exact mm_iret (pc := 28) dX12_qWordOf_28 rfl (Nat.le_refl 0) (Nat.le_refl 0) ⟨_, rfl, rfl, hG, h⟩
set_option maxRecDepth 100000 in
set_option maxHeartbeats 4000000 in
theorem rX12_qAsksWord {d : Nat} {x1 : Int32} {M : mm_M} {K : mm_M → Prop} (hG : mm_G M.2.2) (h : if x1 = 0 then (mm_CV mX12_asks d [.ref 164, .ref 229] M (fun m57 => K m57)) else (if x1 = 1 then (mm_CV mX12_asks d [.ref 164, .ref 230] M (fun m68 => K m68)) else (if x1 = 2 then (mm_CV mX12_asks d [.ref 164, .ref 231] M (fun m79 => K m79)) else (if x1 = 3 then (mm_CV mX12_asks d [.ref 164, .ref 232] M (fun m90 => K m90)) else (if x1 = 4 then (mm_CV mX12_asks d [.ref 164, .ref 233] M (fun m101 => K m101)) else (if x1 = 5 then (mm_CV mX12_asks d [.ref 164, .ref 234] M (fun m112 => K m112)) else (if x1 = 6 then (mm_CV mX12_asks d [.ref 164, .ref 235] M (fun m123 => K m123)) else (if x1 = 7 then (mm_CV mX12_asks d [.ref 164, .ref 236] M (fun m134 => K m134)) else (if x1 = 8 then (mm_CV mX12_asks d [.ref 164, .ref 237] M (fun m145 => K m145)) else (mm_CV mX12_asks d [.ref 164, .ref 238] M (fun m156 => K m156))))))))))) : mm_CV mX12_qAsksWord (d + 1) [.ref 164, .int x1] M K := by
  show mm_W mX12_qAsksWord (d + 1) 0 0 0 [(0, .ref 164), (1, .int x1)] [] mm_SH M 0 0 (mm_PV K)
  refine mm_iload_n (pc := 0) (j := 1) dX12_qAsksWord_0 rfl rfl ?_
  by_cases hs1_0 : x1 = 0
  · have h := mm_ift hs1_0 h
    refine mm_tableIn (pc := 1) (off := 51) (tgt := 52) dX12_qAsksWord_1 (by rw [hs1_0]; decide) (by rw [hs1_0]; decide) (by rw [hs1_0]; rfl) (by decide) ?_
    refine mm_aload_n (pc := 52) (j := 0) dX12_qAsksWord_52 rfl rfl ?_
    refine mm_aload_n (pc := 53) (j := 0) dX12_qAsksWord_53 rfl rfl ?_
    refine mm_getR (pc := 54) (ci := 12) (N := 116) (r := 229) dX12_qAsksWord_54 fX12_213 sh_164 rfl (g_164_94 hG) ?_
    refine mm_kVV (pc := 57) [.ref 229] dX12_qAsksWord_57 kX12_325 rfl sh_164 (Nat.le_of_ble_eq_true rfl) (Nat.le_of_ble_eq_true rfl) h (fun m57 hG h => ?_)
    refine mm_goto (pc := 60) (tgt := 159) dX12_qAsksWord_60 (by decide) ?_
    exact mm_vret (pc := 159) dX12_qAsksWord_159 rfl (Nat.le_refl 0) (Nat.le_refl 0) ⟨rfl, rfl, hG, h⟩
  · have h := mm_iff hs1_0 h
    by_cases hs1_1 : x1 = 1
    · have h := mm_ift hs1_1 h
      refine mm_tableIn (pc := 1) (off := 62) (tgt := 63) dX12_qAsksWord_1 (by rw [hs1_1]; decide) (by rw [hs1_1]; decide) (by rw [hs1_1]; rfl) (by decide) ?_
      refine mm_aload_n (pc := 63) (j := 0) dX12_qAsksWord_63 rfl rfl ?_
      refine mm_aload_n (pc := 64) (j := 0) dX12_qAsksWord_64 rfl rfl ?_
      refine mm_getR (pc := 65) (ci := 12) (N := 116) (r := 230) dX12_qAsksWord_65 fX12_216 sh_164 rfl (g_164_95 hG) ?_
      refine mm_kVV (pc := 68) [.ref 230] dX12_qAsksWord_68 kX12_325 rfl sh_164 (Nat.le_of_ble_eq_true rfl) (Nat.le_of_ble_eq_true rfl) h (fun m68 hG h => ?_)
      refine mm_goto (pc := 71) (tgt := 159) dX12_qAsksWord_71 (by decide) ?_
      exact mm_vret (pc := 159) dX12_qAsksWord_159 rfl (Nat.le_refl 0) (Nat.le_refl 0) ⟨rfl, rfl, hG, h⟩
    · have h := mm_iff hs1_1 h
      by_cases hs1_2 : x1 = 2
      · have h := mm_ift hs1_2 h
        refine mm_tableIn (pc := 1) (off := 73) (tgt := 74) dX12_qAsksWord_1 (by rw [hs1_2]; decide) (by rw [hs1_2]; decide) (by rw [hs1_2]; rfl) (by decide) ?_
        refine mm_aload_n (pc := 74) (j := 0) dX12_qAsksWord_74 rfl rfl ?_
        refine mm_aload_n (pc := 75) (j := 0) dX12_qAsksWord_75 rfl rfl ?_
        refine mm_getR (pc := 76) (ci := 12) (N := 116) (r := 231) dX12_qAsksWord_76 fX12_219 sh_164 rfl (g_164_96 hG) ?_
        refine mm_kVV (pc := 79) [.ref 231] dX12_qAsksWord_79 kX12_325 rfl sh_164 (Nat.le_of_ble_eq_true rfl) (Nat.le_of_ble_eq_true rfl) h (fun m79 hG h => ?_)
        refine mm_goto (pc := 82) (tgt := 159) dX12_qAsksWord_82 (by decide) ?_
        exact mm_vret (pc := 159) dX12_qAsksWord_159 rfl (Nat.le_refl 0) (Nat.le_refl 0) ⟨rfl, rfl, hG, h⟩
      · have h := mm_iff hs1_2 h
        by_cases hs1_3 : x1 = 3
        · have h := mm_ift hs1_3 h
          refine mm_tableIn (pc := 1) (off := 84) (tgt := 85) dX12_qAsksWord_1 (by rw [hs1_3]; decide) (by rw [hs1_3]; decide) (by rw [hs1_3]; rfl) (by decide) ?_
          refine mm_aload_n (pc := 85) (j := 0) dX12_qAsksWord_85 rfl rfl ?_
          refine mm_aload_n (pc := 86) (j := 0) dX12_qAsksWord_86 rfl rfl ?_
          refine mm_getR (pc := 87) (ci := 12) (N := 116) (r := 232) dX12_qAsksWord_87 fX12_222 sh_164 rfl (g_164_97 hG) ?_
          refine mm_kVV (pc := 90) [.ref 232] dX12_qAsksWord_90 kX12_325 rfl sh_164 (Nat.le_of_ble_eq_true rfl) (Nat.le_of_ble_eq_true rfl) h (fun m90 hG h => ?_)
          refine mm_goto (pc := 93) (tgt := 159) dX12_qAsksWord_93 (by decide) ?_
          exact mm_vret (pc := 159) dX12_qAsksWord_159 rfl (Nat.le_refl 0) (Nat.le_refl 0) ⟨rfl, rfl, hG, h⟩
        · have h := mm_iff hs1_3 h
          by_cases hs1_4 : x1 = 4
          · have h := mm_ift hs1_4 h
            refine mm_tableIn (pc := 1) (off := 95) (tgt := 96) dX12_qAsksWord_1 (by rw [hs1_4]; decide) (by rw [hs1_4]; decide) (by rw [hs1_4]; rfl) (by decide) ?_
            refine mm_aload_n (pc := 96) (j := 0) dX12_qAsksWord_96 rfl rfl ?_
            refine mm_aload_n (pc := 97) (j := 0) dX12_qAsksWord_97 rfl rfl ?_
            refine mm_getR (pc := 98) (ci := 12) (N := 116) (r := 233) dX12_qAsksWord_98 fX12_225 sh_164 rfl (g_164_98 hG) ?_
            refine mm_kVV (pc := 101) [.ref 233] dX12_qAsksWord_101 kX12_325 rfl sh_164 (Nat.le_of_ble_eq_true rfl) (Nat.le_of_ble_eq_true rfl) h (fun m101 hG h => ?_)
            refine mm_goto (pc := 104) (tgt := 159) dX12_qAsksWord_104 (by decide) ?_
            exact mm_vret (pc := 159) dX12_qAsksWord_159 rfl (Nat.le_refl 0) (Nat.le_refl 0) ⟨rfl, rfl, hG, h⟩
          · have h := mm_iff hs1_4 h
            by_cases hs1_5 : x1 = 5
            · have h := mm_ift hs1_5 h
              refine mm_tableIn (pc := 1) (off := 106) (tgt := 107) dX12_qAsksWord_1 (by rw [hs1_5]; decide) (by rw [hs1_5]; decide) (by rw [hs1_5]; rfl) (by decide) ?_
              refine mm_aload_n (pc := 107) (j := 0) dX12_qAsksWord_107 rfl rfl ?_
              refine mm_aload_n (pc := 108) (j := 0) dX12_qAsksWord_108 rfl rfl ?_
              refine mm_getR (pc := 109) (ci := 12) (N := 116) (r := 234) dX12_qAsksWord_109 fX12_228 sh_164 rfl (g_164_99 hG) ?_
              refine mm_kVV (pc := 112) [.ref 234] dX12_qAsksWord_112 kX12_325 rfl sh_164 (Nat.le_of_ble_eq_true rfl) (Nat.le_of_ble_eq_true rfl) h (fun m112 hG h => ?_)
              refine mm_goto (pc := 115) (tgt := 159) dX12_qAsksWord_115 (by decide) ?_
              exact mm_vret (pc := 159) dX12_qAsksWord_159 rfl (Nat.le_refl 0) (Nat.le_refl 0) ⟨rfl, rfl, hG, h⟩
            · have h := mm_iff hs1_5 h
              by_cases hs1_6 : x1 = 6
              · have h := mm_ift hs1_6 h
                refine mm_tableIn (pc := 1) (off := 117) (tgt := 118) dX12_qAsksWord_1 (by rw [hs1_6]; decide) (by rw [hs1_6]; decide) (by rw [hs1_6]; rfl) (by decide) ?_
                refine mm_aload_n (pc := 118) (j := 0) dX12_qAsksWord_118 rfl rfl ?_
                refine mm_aload_n (pc := 119) (j := 0) dX12_qAsksWord_119 rfl rfl ?_
                refine mm_getR (pc := 120) (ci := 12) (N := 116) (r := 235) dX12_qAsksWord_120 fX12_231 sh_164 rfl (g_164_100 hG) ?_
                refine mm_kVV (pc := 123) [.ref 235] dX12_qAsksWord_123 kX12_325 rfl sh_164 (Nat.le_of_ble_eq_true rfl) (Nat.le_of_ble_eq_true rfl) h (fun m123 hG h => ?_)
                refine mm_goto (pc := 126) (tgt := 159) dX12_qAsksWord_126 (by decide) ?_
                exact mm_vret (pc := 159) dX12_qAsksWord_159 rfl (Nat.le_refl 0) (Nat.le_refl 0) ⟨rfl, rfl, hG, h⟩
              · have h := mm_iff hs1_6 h
                by_cases hs1_7 : x1 = 7
                · have h := mm_ift hs1_7 h
                  refine mm_tableIn (pc := 1) (off := 128) (tgt := 129) dX12_qAsksWord_1 (by rw [hs1_7]; decide) (by rw [hs1_7]; decide) (by rw [hs1_7]; rfl) (by decide) ?_
                  refine mm_aload_n (pc := 129) (j := 0) dX12_qAsksWord_129 rfl rfl ?_
                  refine mm_aload_n (pc := 130) (j := 0) dX12_qAsksWord_130 rfl rfl ?_
                  refine mm_getR (pc := 131) (ci := 12) (N := 116) (r := 236) dX12_qAsksWord_131 fX12_234 sh_164 rfl (g_164_101 hG) ?_
                  refine mm_kVV (pc := 134) [.ref 236] dX12_qAsksWord_134 kX12_325 rfl sh_164 (Nat.le_of_ble_eq_true rfl) (Nat.le_of_ble_eq_true rfl) h (fun m134 hG h => ?_)
                  refine mm_goto (pc := 137) (tgt := 159) dX12_qAsksWord_137 (by decide) ?_
                  exact mm_vret (pc := 159) dX12_qAsksWord_159 rfl (Nat.le_refl 0) (Nat.le_refl 0) ⟨rfl, rfl, hG, h⟩
                · have h := mm_iff hs1_7 h
                  by_cases hs1_8 : x1 = 8
                  · have h := mm_ift hs1_8 h
                    refine mm_tableIn (pc := 1) (off := 139) (tgt := 140) dX12_qAsksWord_1 (by rw [hs1_8]; decide) (by rw [hs1_8]; decide) (by rw [hs1_8]; rfl) (by decide) ?_
                    refine mm_aload_n (pc := 140) (j := 0) dX12_qAsksWord_140 rfl rfl ?_
                    refine mm_aload_n (pc := 141) (j := 0) dX12_qAsksWord_141 rfl rfl ?_
                    refine mm_getR (pc := 142) (ci := 12) (N := 116) (r := 237) dX12_qAsksWord_142 fX12_237 sh_164 rfl (g_164_102 hG) ?_
                    refine mm_kVV (pc := 145) [.ref 237] dX12_qAsksWord_145 kX12_325 rfl sh_164 (Nat.le_of_ble_eq_true rfl) (Nat.le_of_ble_eq_true rfl) h (fun m145 hG h => ?_)
                    refine mm_goto (pc := 148) (tgt := 159) dX12_qAsksWord_148 (by decide) ?_
                    exact mm_vret (pc := 159) dX12_qAsksWord_159 rfl (Nat.le_refl 0) (Nat.le_refl 0) ⟨rfl, rfl, hG, h⟩
                  · have h := mm_iff hs1_8 h
                    have ht1_0 := lv_neT hs1_0 (show (0 : Int32).toInt = 0 from rfl)
                    have ht1_1 := lv_neT hs1_1 (show (1 : Int32).toInt = 1 from rfl)
                    have ht1_2 := lv_neT hs1_2 (show (2 : Int32).toInt = 2 from rfl)
                    have ht1_3 := lv_neT hs1_3 (show (3 : Int32).toInt = 3 from rfl)
                    have ht1_4 := lv_neT hs1_4 (show (4 : Int32).toInt = 4 from rfl)
                    have ht1_5 := lv_neT hs1_5 (show (5 : Int32).toInt = 5 from rfl)
                    have ht1_6 := lv_neT hs1_6 (show (6 : Int32).toInt = 6 from rfl)
                    have ht1_7 := lv_neT hs1_7 (show (7 : Int32).toInt = 7 from rfl)
                    have ht1_8 := lv_neT hs1_8 (show (8 : Int32).toInt = 8 from rfl)
                    refine mm_tableOut (pc := 1) (tgt := 151) dX12_qAsksWord_1 (by omega) (by decide) ?_
                    refine mm_aload_n (pc := 151) (j := 0) dX12_qAsksWord_151 rfl rfl ?_
                    refine mm_aload_n (pc := 152) (j := 0) dX12_qAsksWord_152 rfl rfl ?_
                    refine mm_getR (pc := 153) (ci := 12) (N := 116) (r := 238) dX12_qAsksWord_153 fX12_240 sh_164 rfl (g_164_103 hG) ?_
                    refine mm_kVV (pc := 156) [.ref 238] dX12_qAsksWord_156 kX12_325 rfl sh_164 (Nat.le_of_ble_eq_true rfl) (Nat.le_of_ble_eq_true rfl) h (fun m156 hG h => ?_)
                    exact mm_vret (pc := 159) dX12_qAsksWord_159 rfl (Nat.le_refl 0) (Nat.le_refl 0) ⟨rfl, rfl, hG, h⟩
def jX12_qEndsPart_0 (d : Nat) (M : mm_M) (K : mm_M → Prop) : Prop := mm_W mX12_qEndsPart (d + 1) 0 0 0 [(0, .ref 164)] [] mm_SH M 0 0 (mm_PV K)
set_option maxRecDepth 100000 in
set_option maxHeartbeats 4000000 in
theorem rX12_qEndsPart {d : Nat} {M : mm_M} {K : mm_M → Prop} (hG : mm_G M.2.2) (h : if (M.1 164 5) = 0 then (if (M.1 164 107) ≤ (M.1 164 109) then (K M) else (vp_in ((M.1 164 107) - 1) 1700 ∧ if (M.1 240 ((M.1 164 107) - 1).toNatClampNeg) < 60 then (K M) else (mm_CV mX12_qDrops d [.ref 164] (mm_uI M 164 108 ((M.1 164 108) - 1)) (fun m45 => jX12_qEndsPart_0 d m45 K)))) else (K M)) : mm_CV mX12_qEndsPart (d + 1) [.ref 164] M K := by
  show mm_W mX12_qEndsPart (d + 1) 0 0 0 [(0, .ref 164)] [] mm_SH M 0 0 (mm_PV K)
  refine mm_aload_n (pc := 0) (j := 0) dX12_qEndsPart_0 rfl rfl ?_
  refine mm_getI (pc := 1) (ci := 12) (N := 116) dX12_qEndsPart_1 fX12_260 sh_164 rfl ?_
  refine mm_if_ne (pc := 4) (tgt := 51) dX12_qEndsPart_4 (by decide) (fun hc => ?_) (fun hc => ?_)
  · have h := mm_iff hc h
    exact mm_vret (pc := 51) dX12_qEndsPart_51 rfl (Nat.le_refl 0) (Nat.le_refl 0) ⟨rfl, rfl, hG, h⟩
  · have h := mm_ift hc h
    refine mm_aload_n (pc := 7) (j := 0) dX12_qEndsPart_7 rfl rfl ?_
    refine mm_getI (pc := 8) (ci := 12) (N := 116) dX12_qEndsPart_8 fX12_357 sh_164 rfl ?_
    refine mm_aload_n (pc := 11) (j := 0) dX12_qEndsPart_11 rfl rfl ?_
    refine mm_getI (pc := 12) (ci := 12) (N := 116) dX12_qEndsPart_12 fX12_363 sh_164 rfl ?_
    refine mm_icmp_le (pc := 15) (tgt := 51) dX12_qEndsPart_15 (by decide) (fun hc => ?_) (fun hc => ?_)
    · have h := mm_ift hc h
      exact mm_vret (pc := 51) dX12_qEndsPart_51 rfl (Nat.le_refl 0) (Nat.le_refl 0) ⟨rfl, rfl, hG, h⟩
    · have h := mm_iff hc h
      refine mm_aload_n (pc := 18) (j := 0) dX12_qEndsPart_18 rfl rfl ?_
      refine mm_getR (pc := 19) (ci := 12) (N := 116) (r := 240) dX12_qEndsPart_19 fX12_246 sh_164 rfl (g_164_106 hG) ?_
      refine mm_aload_n (pc := 22) (j := 0) dX12_qEndsPart_22 rfl rfl ?_
      refine mm_getI (pc := 23) (ci := 12) (N := 116) dX12_qEndsPart_23 fX12_357 sh_164 rfl ?_
      refine mm_iconst (pc := 26) (x := 1) dX12_qEndsPart_26 rfl ?_
      refine mm_isub (pc := 27) dX12_qEndsPart_27 ?_
      obtain ⟨hi28, h⟩ := h
      refine mm_iaload (pc := 28) (N := 1700) dX12_qEndsPart_28 sh_240 hi28 ?_
      refine mm_bipush (pc := 29) (x := 60) dX12_qEndsPart_29 rfl ?_
      refine mm_icmp_lt (pc := 31) (tgt := 51) dX12_qEndsPart_31 (by decide) (fun hc => ?_) (fun hc => ?_)
      · have h := mm_ift hc h
        exact mm_vret (pc := 51) dX12_qEndsPart_51 rfl (Nat.le_refl 0) (Nat.le_refl 0) ⟨rfl, rfl, hG, h⟩
      · have h := mm_iff hc h
        refine mm_aload_n (pc := 34) (j := 0) dX12_qEndsPart_34 rfl rfl ?_
        refine mm_dup (pc := 35) dX12_qEndsPart_35 rfl ?_
        refine mm_getI (pc := 36) (ci := 12) (N := 116) dX12_qEndsPart_36 fX12_360 sh_164 rfl ?_
        refine mm_iconst (pc := 39) (x := 1) dX12_qEndsPart_39 rfl ?_
        refine mm_isub (pc := 40) dX12_qEndsPart_40 ?_
        refine mm_putI (pc := 41) (ci := 12) (N := 116) dX12_qEndsPart_41 fX12_360 sh_164 (by decide +kernel) rfl rfl rfl ?_
        refine mm_aload_n (pc := 44) (j := 0) dX12_qEndsPart_44 rfl rfl ?_
        refine mm_kVV (pc := 45) [] dX12_qEndsPart_45 kX12_648 rfl sh_164 (Nat.le_of_ble_eq_true rfl) (Nat.le_of_ble_eq_true rfl) h (fun m45 hG h => ?_)
        refine mm_goto (pc := 48) (tgt := 0) dX12_qEndsPart_48 (by decide) ?_
        exact h
set_option maxRecDepth 100000 in
set_option maxHeartbeats 4000000 in
theorem lX12_qEndsPart_0 {d : Nat} {M : mm_M} {K : mm_M → Prop} (hG : mm_G M.2.2) (h : if (M.1 164 5) = 0 then (if (M.1 164 107) ≤ (M.1 164 109) then (K M) else (vp_in ((M.1 164 107) - 1) 1700 ∧ if (M.1 240 ((M.1 164 107) - 1).toNatClampNeg) < 60 then (K M) else (mm_CV mX12_qDrops d [.ref 164] (mm_uI M 164 108 ((M.1 164 108) - 1)) (fun m45 => jX12_qEndsPart_0 d m45 K)))) else (K M)) : jX12_qEndsPart_0 d  M K  := by
  unfold jX12_qEndsPart_0
  refine mm_aload_n (pc := 0) (j := 0) dX12_qEndsPart_0 rfl rfl ?_
  refine mm_getI (pc := 1) (ci := 12) (N := 116) dX12_qEndsPart_1 fX12_260 sh_164 rfl ?_
  refine mm_if_ne (pc := 4) (tgt := 51) dX12_qEndsPart_4 (by decide) (fun hc => ?_) (fun hc => ?_)
  · have h := mm_iff hc h
    exact mm_vret (pc := 51) dX12_qEndsPart_51 rfl (Nat.le_refl 0) (Nat.le_refl 0) ⟨rfl, rfl, hG, h⟩
  · have h := mm_ift hc h
    refine mm_aload_n (pc := 7) (j := 0) dX12_qEndsPart_7 rfl rfl ?_
    refine mm_getI (pc := 8) (ci := 12) (N := 116) dX12_qEndsPart_8 fX12_357 sh_164 rfl ?_
    refine mm_aload_n (pc := 11) (j := 0) dX12_qEndsPart_11 rfl rfl ?_
    refine mm_getI (pc := 12) (ci := 12) (N := 116) dX12_qEndsPart_12 fX12_363 sh_164 rfl ?_
    refine mm_icmp_le (pc := 15) (tgt := 51) dX12_qEndsPart_15 (by decide) (fun hc => ?_) (fun hc => ?_)
    · have h := mm_ift hc h
      exact mm_vret (pc := 51) dX12_qEndsPart_51 rfl (Nat.le_refl 0) (Nat.le_refl 0) ⟨rfl, rfl, hG, h⟩
    · have h := mm_iff hc h
      refine mm_aload_n (pc := 18) (j := 0) dX12_qEndsPart_18 rfl rfl ?_
      refine mm_getR (pc := 19) (ci := 12) (N := 116) (r := 240) dX12_qEndsPart_19 fX12_246 sh_164 rfl (g_164_106 hG) ?_
      refine mm_aload_n (pc := 22) (j := 0) dX12_qEndsPart_22 rfl rfl ?_
      refine mm_getI (pc := 23) (ci := 12) (N := 116) dX12_qEndsPart_23 fX12_357 sh_164 rfl ?_
      refine mm_iconst (pc := 26) (x := 1) dX12_qEndsPart_26 rfl ?_
      refine mm_isub (pc := 27) dX12_qEndsPart_27 ?_
      obtain ⟨hi28, h⟩ := h
      refine mm_iaload (pc := 28) (N := 1700) dX12_qEndsPart_28 sh_240 hi28 ?_
      refine mm_bipush (pc := 29) (x := 60) dX12_qEndsPart_29 rfl ?_
      refine mm_icmp_lt (pc := 31) (tgt := 51) dX12_qEndsPart_31 (by decide) (fun hc => ?_) (fun hc => ?_)
      · have h := mm_ift hc h
        exact mm_vret (pc := 51) dX12_qEndsPart_51 rfl (Nat.le_refl 0) (Nat.le_refl 0) ⟨rfl, rfl, hG, h⟩
      · have h := mm_iff hc h
        refine mm_aload_n (pc := 34) (j := 0) dX12_qEndsPart_34 rfl rfl ?_
        refine mm_dup (pc := 35) dX12_qEndsPart_35 rfl ?_
        refine mm_getI (pc := 36) (ci := 12) (N := 116) dX12_qEndsPart_36 fX12_360 sh_164 rfl ?_
        refine mm_iconst (pc := 39) (x := 1) dX12_qEndsPart_39 rfl ?_
        refine mm_isub (pc := 40) dX12_qEndsPart_40 ?_
        refine mm_putI (pc := 41) (ci := 12) (N := 116) dX12_qEndsPart_41 fX12_360 sh_164 (by decide +kernel) rfl rfl rfl ?_
        refine mm_aload_n (pc := 44) (j := 0) dX12_qEndsPart_44 rfl rfl ?_
        refine mm_kVV (pc := 45) [] dX12_qEndsPart_45 kX12_648 rfl sh_164 (Nat.le_of_ble_eq_true rfl) (Nat.le_of_ble_eq_true rfl) h (fun m45 hG h => ?_)
        refine mm_goto (pc := 48) (tgt := 0) dX12_qEndsPart_48 (by decide) ?_
        exact h
def jX12_qPartTold_2 (d : Nat) (M : mm_M) (K : mm_M → Prop) (y1 : Int32) : Prop := mm_W mX12_qPartTold (d + 1) 0 0 2 [(0, .ref 164), (1, .int y1)] [] mm_SH M 0 0 (mm_PV K)
def jX12_qPartTold_186 (d : Nat) (M : mm_M) (K : mm_M → Prop) : Prop := mm_W mX12_qPartTold (d + 1) 0 0 186 [(0, .ref 164)] [] mm_SH M 0 0 (mm_PV K)
def jX12_qPartTold_78 (d : Nat) (M : mm_M) (K : mm_M → Prop) (y1 : Int32) : Prop := mm_W mX12_qPartTold (d + 1) 0 0 78 [(0, .ref 164), (1, .int y1)] [] mm_SH M 0 0 (mm_PV K)
def jX12_qPartTold_212 (d : Nat) (M : mm_M) (K : mm_M → Prop) (y2 : Int32) : Prop := mm_W mX12_qPartTold (d + 1) 0 0 212 [(0, .ref 164), (2, .int y2)] [] mm_SH M 0 0 (mm_PV K)
def jX12_qPartTold_118 (d : Nat) (M : mm_M) (K : mm_M → Prop) (y1 : Int32) (y4 : Int32) (u0 : Int32) : Prop := mm_W mX12_qPartTold (d + 1) 0 0 118 [(0, .ref 164), (1, .int y1), (4, .int y4)] [.int u0] mm_SH M 0 0 (mm_PV K)
set_option maxRecDepth 100000 in
set_option maxHeartbeats 4000000 in
theorem rX12_qPartTold {d : Nat} {M : mm_M} {K : mm_M → Prop} (hG : mm_G M.2.2) (h : jX12_qPartTold_2 d M K 1) : mm_CV mX12_qPartTold (d + 1) [.ref 164] M K := by
  show mm_W mX12_qPartTold (d + 1) 0 0 0 [(0, .ref 164)] [] mm_SH M 0 0 (mm_PV K)
  refine mm_iconst (pc := 0) (x := 1) dX12_qPartTold_0 rfl ?_
  refine mm_istore_n (pc := 1) (lv' := [(1, .int 1), (0, .ref 164)]) dX12_qPartTold_1 rfl (by decide) rfl ?_
  exact mm_sub [1, 0] rfl h
set_option maxRecDepth 100000 in
set_option maxHeartbeats 4000000 in
theorem lX12_qPartTold_2 {d : Nat} {M : mm_M} {K : mm_M → Prop} {y1 : Int32} (hG : mm_G M.2.2) (h : if y1 = 0 then (jX12_qPartTold_186 d M K) else (if (M.1 164 5) = 0 then (mm_CI mX12_look d [.ref 164] M (fun z14 m14 => mm_CI mX12_qWordOf d [.ref 164, .int 8, .int 10] m14 (fun z23 m23 => if z14 = 40 then (mm_CV mX12_qOpens d [.ref 164, .int 20, .int (m23.1 164 2)] m23 (fun m40 => jX12_qPartTold_2 d (mm_uI m40 164 2 ((m40.1 164 2) + 1)) K y1)) else (mm_CI mX12_isHere d [.ref 164, .ref 227] m23 (fun z61 m61 => if z61 = 0 then (mm_CI mX12_isHere d [.ref 164, .ref 228] m61 (fun z72 m72 => if z72 = 0 then (if z23 = (-1) then (jX12_qPartTold_2 d m72 K 0) else (mm_CV mX12_qOpens d [.ref 164, .int ((60 + z23) - 8), .int (m72.1 164 2)] m72 (fun m170 => mm_CV mX12_qAsksWord d [.ref 164, .int z23] m170 (fun m175 => jX12_qPartTold_2 d m175 K y1)))) else (jX12_qPartTold_78 d m72 K y1))) else (jX12_qPartTold_78 d m61 K y1)))))) else (jX12_qPartTold_186 d M K))) : jX12_qPartTold_2 d  M K y1 := by
  unfold jX12_qPartTold_2
  refine mm_iload_n (pc := 2) (j := 1) dX12_qPartTold_2 rfl rfl ?_
  refine mm_if_eq (pc := 3) (tgt := 186) dX12_qPartTold_3 (by decide) (fun hc => ?_) (fun hc => ?_)
  · have h := mm_ift hc h
    exact mm_sub [0] rfl h
  · have h := mm_iff hc h
    refine mm_aload_n (pc := 6) (j := 0) dX12_qPartTold_6 rfl rfl ?_
    refine mm_getI (pc := 7) (ci := 12) (N := 116) dX12_qPartTold_7 fX12_260 sh_164 rfl ?_
    refine mm_if_ne (pc := 10) (tgt := 186) dX12_qPartTold_10 (by decide) (fun hc => ?_) (fun hc => ?_)
    · have h := mm_iff hc h
      exact mm_sub [0] rfl h
    · have h := mm_ift hc h
      refine mm_aload_n (pc := 13) (j := 0) dX12_qPartTold_13 rfl rfl ?_
      refine mm_kVI (pc := 14) [] dX12_qPartTold_14 kX12_272 rfl sh_164 (Nat.le_of_ble_eq_true rfl) (Nat.le_of_ble_eq_true rfl) h (fun z14 m14 hG h => ?_)
      refine mm_istore_n (pc := 17) (lv' := [(2, .int z14), (0, .ref 164), (1, .int y1)]) dX12_qPartTold_17 rfl (by decide) rfl ?_
      refine mm_aload_n (pc := 18) (j := 1) dX12_qPartTold_18 rfl rfl ?_
      refine mm_bipush (pc := 19) (x := 8) dX12_qPartTold_19 rfl ?_
      refine mm_bipush (pc := 21) (x := 10) dX12_qPartTold_21 rfl ?_
      refine mm_kVI (pc := 23) [.int 8, .int 10] dX12_qPartTold_23 kX12_657 rfl sh_164 (Nat.le_of_ble_eq_true rfl) (Nat.le_of_ble_eq_true rfl) h (fun z23 m23 hG h => ?_)
      refine mm_istore_n (pc := 26) (lv' := [(3, .int z23), (2, .int z14), (0, .ref 164), (1, .int y1)]) dX12_qPartTold_26 rfl (by decide) rfl ?_
      refine mm_iload_n (pc := 27) (j := 1) dX12_qPartTold_27 rfl rfl ?_
      refine mm_bipush (pc := 28) (x := 40) dX12_qPartTold_28 rfl ?_
      refine mm_icmp_ne (pc := 30) (tgt := 56) dX12_qPartTold_30 (by decide) (fun hc => ?_) (fun hc => ?_)
      · have h := mm_iff hc h
        refine mm_aload_n (pc := 56) (j := 2) dX12_qPartTold_56 rfl rfl ?_
        refine mm_aload_n (pc := 57) (j := 2) dX12_qPartTold_57 rfl rfl ?_
        refine mm_getR (pc := 58) (ci := 12) (N := 116) (r := 227) dX12_qPartTold_58 fX12_207 sh_164 rfl (g_164_92 hG) ?_
        refine mm_kVI (pc := 61) [.ref 227] dX12_qPartTold_61 kX12_283 rfl sh_164 (Nat.le_of_ble_eq_true rfl) (Nat.le_of_ble_eq_true rfl) h (fun z61 m61 hG h => ?_)
        refine mm_if_ne (pc := 64) (tgt := 78) dX12_qPartTold_64 (by decide) (fun hc => ?_) (fun hc => ?_)
        · have h := mm_iff hc h
          exact mm_sub [2, 3] rfl h
        · have h := mm_ift hc h
          refine mm_aload_n (pc := 67) (j := 2) dX12_qPartTold_67 rfl rfl ?_
          refine mm_aload_n (pc := 68) (j := 2) dX12_qPartTold_68 rfl rfl ?_
          refine mm_getR (pc := 69) (ci := 12) (N := 116) (r := 228) dX12_qPartTold_69 fX12_210 sh_164 rfl (g_164_93 hG) ?_
          refine mm_kVI (pc := 72) [.ref 228] dX12_qPartTold_72 kX12_283 rfl sh_164 (Nat.le_of_ble_eq_true rfl) (Nat.le_of_ble_eq_true rfl) h (fun z72 m72 hG h => ?_)
          refine mm_if_eq (pc := 75) (tgt := 153) dX12_qPartTold_75 (by decide) (fun hc => ?_) (fun hc => ?_)
          · have h := mm_ift hc h
            refine mm_iload_n (pc := 153) (j := 0) dX12_qPartTold_153 rfl rfl ?_
            refine mm_iconst (pc := 154) (x := (-1)) dX12_qPartTold_154 rfl ?_
            refine mm_icmp_eq (pc := 155) (tgt := 181) dX12_qPartTold_155 (by decide) (fun hc => ?_) (fun hc => ?_)
            · have h := mm_ift hc h
              refine mm_iconst (pc := 181) (x := 0) dX12_qPartTold_181 rfl ?_
              refine mm_istore_n (pc := 182) (lv' := [(1, .int 0), (3, .int z23), (2, .int z14), (0, .ref 164)]) dX12_qPartTold_182 rfl (by decide) rfl ?_
              refine mm_goto (pc := 183) (tgt := 2) dX12_qPartTold_183 (by decide) ?_
              exact mm_sub [3, 0] rfl h
            · have h := mm_iff hc h
              refine mm_aload_n (pc := 158) (j := 2) dX12_qPartTold_158 rfl rfl ?_
              refine mm_bipush (pc := 159) (x := 60) dX12_qPartTold_159 rfl ?_
              refine mm_iload_n (pc := 161) (j := 0) dX12_qPartTold_161 rfl rfl ?_
              refine mm_iadd (pc := 162) dX12_qPartTold_162 ?_
              refine mm_bipush (pc := 163) (x := 8) dX12_qPartTold_163 rfl ?_
              refine mm_isub (pc := 165) dX12_qPartTold_165 ?_
              refine mm_aload_n (pc := 166) (j := 2) dX12_qPartTold_166 rfl rfl ?_
              refine mm_getI (pc := 167) (ci := 12) (N := 116) dX12_qPartTold_167 fX12_266 sh_164 rfl ?_
              refine mm_kVV (pc := 170) [.int ((60 + z23) - 8), .int (m72.1 164 2)] dX12_qPartTold_170 kX12_660 rfl sh_164 (Nat.le_of_ble_eq_true rfl) (Nat.le_of_ble_eq_true rfl) h (fun m170 hG h => ?_)
              refine mm_aload_n (pc := 173) (j := 2) dX12_qPartTold_173 rfl rfl ?_
              refine mm_iload_n (pc := 174) (j := 0) dX12_qPartTold_174 rfl rfl ?_
              refine mm_kVV (pc := 175) [.int z23] dX12_qPartTold_175 kX12_663 rfl sh_164 (Nat.le_of_ble_eq_true rfl) (Nat.le_of_ble_eq_true rfl) h (fun m175 hG h => ?_)
              refine mm_goto (pc := 178) (tgt := 183) dX12_qPartTold_178 (by decide) ?_
              refine mm_goto (pc := 183) (tgt := 2) dX12_qPartTold_183 (by decide) ?_
              exact mm_sub [2, 3] rfl h
          · have h := mm_iff hc h
            exact mm_sub [2, 3] rfl h
      · have h := mm_ift hc h
        refine mm_aload_n (pc := 33) (j := 2) dX12_qPartTold_33 rfl rfl ?_
        refine mm_bipush (pc := 34) (x := 20) dX12_qPartTold_34 rfl ?_
        refine mm_aload_n (pc := 36) (j := 2) dX12_qPartTold_36 rfl rfl ?_
        refine mm_getI (pc := 37) (ci := 12) (N := 116) dX12_qPartTold_37 fX12_266 sh_164 rfl ?_
        refine mm_kVV (pc := 40) [.int 20, .int (m23.1 164 2)] dX12_qPartTold_40 kX12_660 rfl sh_164 (Nat.le_of_ble_eq_true rfl) (Nat.le_of_ble_eq_true rfl) h (fun m40 hG h => ?_)
        refine mm_aload_n (pc := 43) (j := 2) dX12_qPartTold_43 rfl rfl ?_
        refine mm_dup (pc := 44) dX12_qPartTold_44 rfl ?_
        refine mm_getI (pc := 45) (ci := 12) (N := 116) dX12_qPartTold_45 fX12_266 sh_164 rfl ?_
        refine mm_iconst (pc := 48) (x := 1) dX12_qPartTold_48 rfl ?_
        refine mm_iadd (pc := 49) dX12_qPartTold_49 ?_
        refine mm_putI (pc := 50) (ci := 12) (N := 116) dX12_qPartTold_50 fX12_266 sh_164 (by decide +kernel) rfl rfl rfl ?_
        refine mm_goto (pc := 53) (tgt := 183) dX12_qPartTold_53 (by decide) ?_
        refine mm_goto (pc := 183) (tgt := 2) dX12_qPartTold_183 (by decide) ?_
        exact mm_sub [2, 3] rfl h
set_option maxRecDepth 100000 in
set_option maxHeartbeats 4000000 in
theorem lX12_qPartTold_186 {d : Nat} {M : mm_M} {K : mm_M → Prop} (hG : mm_G M.2.2) (h : if (M.1 164 5) = 0 then (mm_CI mX12_qWordOf d [.ref 164, .int 0, .int 8] M (fun z198 m198 => if z198 = (-1) then (jX12_qPartTold_212 d m198 K z198) else (mm_CV mX12_qAsksWord d [.ref 164, .int z198] m198 (fun m209 => jX12_qPartTold_212 d m209 K z198)))) else (K M)) : jX12_qPartTold_186 d  M K  := by
  unfold jX12_qPartTold_186
  refine mm_aload_n (pc := 186) (j := 0) dX12_qPartTold_186 rfl rfl ?_
  refine mm_getI (pc := 187) (ci := 12) (N := 116) dX12_qPartTold_187 fX12_260 sh_164 rfl ?_
  refine mm_if_eq (pc := 190) (tgt := 194) dX12_qPartTold_190 (by decide) (fun hc => ?_) (fun hc => ?_)
  · have h := mm_ift hc h
    refine mm_aload_n (pc := 194) (j := 0) dX12_qPartTold_194 rfl rfl ?_
    refine mm_iconst (pc := 195) (x := 0) dX12_qPartTold_195 rfl ?_
    refine mm_bipush (pc := 196) (x := 8) dX12_qPartTold_196 rfl ?_
    refine mm_kVI (pc := 198) [.int 0, .int 8] dX12_qPartTold_198 kX12_657 rfl sh_164 (Nat.le_of_ble_eq_true rfl) (Nat.le_of_ble_eq_true rfl) h (fun z198 m198 hG h => ?_)
    refine mm_istore_n (pc := 201) (lv' := [(2, .int z198), (0, .ref 164)]) dX12_qPartTold_201 rfl (by decide) rfl ?_
    refine mm_iload_n (pc := 202) (j := 0) dX12_qPartTold_202 rfl rfl ?_
    refine mm_iconst (pc := 203) (x := (-1)) dX12_qPartTold_203 rfl ?_
    refine mm_icmp_eq (pc := 204) (tgt := 212) dX12_qPartTold_204 (by decide) (fun hc => ?_) (fun hc => ?_)
    · have h := mm_ift hc h
      exact mm_sub [1, 0] rfl h
    · have h := mm_iff hc h
      refine mm_aload_n (pc := 207) (j := 1) dX12_qPartTold_207 rfl rfl ?_
      refine mm_iload_n (pc := 208) (j := 0) dX12_qPartTold_208 rfl rfl ?_
      refine mm_kVV (pc := 209) [.int z198] dX12_qPartTold_209 kX12_663 rfl sh_164 (Nat.le_of_ble_eq_true rfl) (Nat.le_of_ble_eq_true rfl) h (fun m209 hG h => ?_)
      exact mm_sub [1, 0] rfl h
  · have h := mm_iff hc h
    exact mm_vret (pc := 193) dX12_qPartTold_193 rfl (Nat.le_refl 0) (Nat.le_refl 0) ⟨rfl, rfl, hG, h⟩
set_option maxRecDepth 100000 in
set_option maxHeartbeats 4000000 in
theorem lX12_qPartTold_78 {d : Nat} {M : mm_M} {K : mm_M → Prop} {y1 : Int32} (hG : mm_G M.2.2) (h : mm_CI mX12_takes d [.ref 164, .ref 227] M (fun z83 m83 => if z83 = 0 then (mm_CV mX12_asks d [.ref 164, .ref 228] m83 (fun m98 => mm_CI mX12_look d [.ref 164] m98 (fun z102 m102 => if z102 = 40 then (jX12_qPartTold_118 d m102 K y1 z83 (m102.1 164 2)) else (jX12_qPartTold_118 d m102 K y1 z83 (-1))))) else (mm_CI mX12_look d [.ref 164] m83 (fun z102 m102 => if z102 = 40 then (jX12_qPartTold_118 d m102 K y1 z83 (m102.1 164 2)) else (jX12_qPartTold_118 d m102 K y1 z83 (-1)))))) : jX12_qPartTold_78 d  M K y1 := by
  unfold jX12_qPartTold_78
  refine mm_aload_n (pc := 78) (j := 0) dX12_qPartTold_78 rfl rfl ?_
  refine mm_aload_n (pc := 79) (j := 0) dX12_qPartTold_79 rfl rfl ?_
  refine mm_getR (pc := 80) (ci := 12) (N := 116) (r := 227) dX12_qPartTold_80 fX12_207 sh_164 rfl (g_164_92 hG) ?_
  refine mm_kVI (pc := 83) [.ref 227] dX12_qPartTold_83 kX12_287 rfl sh_164 (Nat.le_of_ble_eq_true rfl) (Nat.le_of_ble_eq_true rfl) h (fun z83 m83 hG h => ?_)
  refine mm_istore (pc := 86) (lv' := [(4, .int z83), (0, .ref 164), (1, .int y1)]) dX12_qPartTold_86 (by decide) rfl ?_
  refine mm_iload (pc := 88) (j := 0) dX12_qPartTold_88 rfl ?_
  refine mm_if_ne (pc := 90) (tgt := 101) dX12_qPartTold_90 (by decide) (fun hc => ?_) (fun hc => ?_)
  · have h := mm_iff hc h
    refine mm_aload_n (pc := 101) (j := 1) dX12_qPartTold_101 rfl rfl ?_
    refine mm_kVI (pc := 102) [] dX12_qPartTold_102 kX12_272 rfl sh_164 (Nat.le_of_ble_eq_true rfl) (Nat.le_of_ble_eq_true rfl) h (fun z102 m102 hG h => ?_)
    refine mm_bipush (pc := 105) (x := 40) dX12_qPartTold_105 rfl ?_
    refine mm_icmp_ne (pc := 107) (tgt := 117) dX12_qPartTold_107 (by decide) (fun hc => ?_) (fun hc => ?_)
    · have h := mm_iff hc h
      refine mm_iconst (pc := 117) (x := (-1)) dX12_qPartTold_117 rfl ?_
      exact mm_sub [1, 2, 0] rfl h
    · have h := mm_ift hc h
      refine mm_aload_n (pc := 110) (j := 1) dX12_qPartTold_110 rfl rfl ?_
      refine mm_getI (pc := 111) (ci := 12) (N := 116) dX12_qPartTold_111 fX12_266 sh_164 rfl ?_
      refine mm_goto (pc := 114) (tgt := 118) dX12_qPartTold_114 (by decide) ?_
      exact mm_sub [1, 2, 0] rfl h
  · have h := mm_ift hc h
    refine mm_aload_n (pc := 93) (j := 1) dX12_qPartTold_93 rfl rfl ?_
    refine mm_aload_n (pc := 94) (j := 1) dX12_qPartTold_94 rfl rfl ?_
    refine mm_getR (pc := 95) (ci := 12) (N := 116) (r := 228) dX12_qPartTold_95 fX12_210 sh_164 rfl (g_164_93 hG) ?_
    refine mm_kVV (pc := 98) [.ref 228] dX12_qPartTold_98 kX12_325 rfl sh_164 (Nat.le_of_ble_eq_true rfl) (Nat.le_of_ble_eq_true rfl) h (fun m98 hG h => ?_)
    refine mm_aload_n (pc := 101) (j := 1) dX12_qPartTold_101 rfl rfl ?_
    refine mm_kVI (pc := 102) [] dX12_qPartTold_102 kX12_272 rfl sh_164 (Nat.le_of_ble_eq_true rfl) (Nat.le_of_ble_eq_true rfl) h (fun z102 m102 hG h => ?_)
    refine mm_bipush (pc := 105) (x := 40) dX12_qPartTold_105 rfl ?_
    refine mm_icmp_ne (pc := 107) (tgt := 117) dX12_qPartTold_107 (by decide) (fun hc => ?_) (fun hc => ?_)
    · have h := mm_iff hc h
      refine mm_iconst (pc := 117) (x := (-1)) dX12_qPartTold_117 rfl ?_
      exact mm_sub [1, 2, 0] rfl h
    · have h := mm_ift hc h
      refine mm_aload_n (pc := 110) (j := 1) dX12_qPartTold_110 rfl rfl ?_
      refine mm_getI (pc := 111) (ci := 12) (N := 116) dX12_qPartTold_111 fX12_266 sh_164 rfl ?_
      refine mm_goto (pc := 114) (tgt := 118) dX12_qPartTold_114 (by decide) ?_
      exact mm_sub [1, 2, 0] rfl h
set_option maxRecDepth 100000 in
set_option maxHeartbeats 4000000 in
theorem lX12_qPartTold_212 {d : Nat} {M : mm_M} {K : mm_M → Prop} {y2 : Int32} (hG : mm_G M.2.2) (h : if y2 = (-1) then (mm_CI mX12_number d [.ref 164, .int 0, .int 9999] M (fun z233 m233 => mm_CV mX12_qCode d [.ref 164, .int (1000 + z233)] m233 (fun m237 => mm_CV mX12_qEndsPart d [.ref 164] m237 (fun m241 => K m241)))) else (mm_CV mX12_qCode d [.ref 164, .int (40 + y2)] M (fun m237 => mm_CV mX12_qEndsPart d [.ref 164] m237 (fun m241 => K m241)))) : jX12_qPartTold_212 d  M K y2 := by
  unfold jX12_qPartTold_212
  refine mm_aload_n (pc := 212) (j := 0) dX12_qPartTold_212 rfl rfl ?_
  refine mm_iload_n (pc := 213) (j := 1) dX12_qPartTold_213 rfl rfl ?_
  refine mm_iconst (pc := 214) (x := (-1)) dX12_qPartTold_214 rfl ?_
  refine mm_icmp_eq (pc := 215) (tgt := 225) dX12_qPartTold_215 (by decide) (fun hc => ?_) (fun hc => ?_)
  · have h := mm_ift hc h
    refine mm_sipush (pc := 225) (x := 1000) dX12_qPartTold_225 rfl ?_
    refine mm_aload_n (pc := 228) (j := 0) dX12_qPartTold_228 rfl rfl ?_
    refine mm_iconst (pc := 229) (x := 0) dX12_qPartTold_229 rfl ?_
    refine mm_sipush (pc := 230) (x := 9999) dX12_qPartTold_230 rfl ?_
    refine mm_kVI (pc := 233) [.int 0, .int 9999] dX12_qPartTold_233 kX12_329 rfl sh_164 (Nat.le_of_ble_eq_true rfl) (Nat.le_of_ble_eq_true rfl) h (fun z233 m233 hG h => ?_)
    refine mm_iadd (pc := 236) dX12_qPartTold_236 ?_
    refine mm_kVV (pc := 237) [.int (1000 + z233)] dX12_qPartTold_237 kX12_642 rfl sh_164 (Nat.le_of_ble_eq_true rfl) (Nat.le_of_ble_eq_true rfl) h (fun m237 hG h => ?_)
    refine mm_aload_n (pc := 240) (j := 0) dX12_qPartTold_240 rfl rfl ?_
    refine mm_kVV (pc := 241) [] dX12_qPartTold_241 kX12_666 rfl sh_164 (Nat.le_of_ble_eq_true rfl) (Nat.le_of_ble_eq_true rfl) h (fun m241 hG h => ?_)
    exact mm_vret (pc := 244) dX12_qPartTold_244 rfl (Nat.le_refl 0) (Nat.le_refl 0) ⟨rfl, rfl, hG, h⟩
  · have h := mm_iff hc h
    refine mm_bipush (pc := 218) (x := 40) dX12_qPartTold_218 rfl ?_
    refine mm_iload_n (pc := 220) (j := 1) dX12_qPartTold_220 rfl rfl ?_
    refine mm_iadd (pc := 221) dX12_qPartTold_221 ?_
    refine mm_goto (pc := 222) (tgt := 237) dX12_qPartTold_222 (by decide) ?_
    refine mm_kVV (pc := 237) [.int (40 + y2)] dX12_qPartTold_237 kX12_642 rfl sh_164 (Nat.le_of_ble_eq_true rfl) (Nat.le_of_ble_eq_true rfl) h (fun m237 hG h => ?_)
    refine mm_aload_n (pc := 240) (j := 0) dX12_qPartTold_240 rfl rfl ?_
    refine mm_kVV (pc := 241) [] dX12_qPartTold_241 kX12_666 rfl sh_164 (Nat.le_of_ble_eq_true rfl) (Nat.le_of_ble_eq_true rfl) h (fun m241 hG h => ?_)
    exact mm_vret (pc := 244) dX12_qPartTold_244 rfl (Nat.le_refl 0) (Nat.le_refl 0) ⟨rfl, rfl, hG, h⟩
set_option maxRecDepth 100000 in
set_option maxHeartbeats 4000000 in
theorem lX12_qPartTold_118 {d : Nat} {M : mm_M} {K : mm_M → Prop} {y1 : Int32} {y4 : Int32} {u0 : Int32} (hG : mm_G M.2.2) (h : if u0 = (-1) then (mm_CV mX12_asksSign d [.ref 164, .int 40] M (fun m147 => jX12_qPartTold_2 d m147 K y1)) else (if y4 = 0 then (mm_CV mX12_qOpens d [.ref 164, .int 22, .int u0] M (fun m141 => mm_CV mX12_asksSign d [.ref 164, .int 40] m141 (fun m147 => jX12_qPartTold_2 d m147 K y1))) else (mm_CV mX12_qOpens d [.ref 164, .int 21, .int u0] M (fun m141 => mm_CV mX12_asksSign d [.ref 164, .int 40] m141 (fun m147 => jX12_qPartTold_2 d m147 K y1))))) : jX12_qPartTold_118 d  M K y1 y4 u0 := by
  unfold jX12_qPartTold_118
  refine mm_istore (pc := 118) (lv' := [(5, .int u0), (0, .ref 164), (1, .int y1), (4, .int y4)]) dX12_qPartTold_118 (by decide) rfl ?_
  refine mm_iload (pc := 120) (j := 0) dX12_qPartTold_120 rfl ?_
  refine mm_iconst (pc := 122) (x := (-1)) dX12_qPartTold_122 rfl ?_
  refine mm_icmp_eq (pc := 123) (tgt := 144) dX12_qPartTold_123 (by decide) (fun hc => ?_) (fun hc => ?_)
  · have h := mm_ift hc h
    refine mm_aload_n (pc := 144) (j := 1) dX12_qPartTold_144 rfl rfl ?_
    refine mm_bipush (pc := 145) (x := 40) dX12_qPartTold_145 rfl ?_
    refine mm_kVV (pc := 147) [.int 40] dX12_qPartTold_147 kX12_333 rfl sh_164 (Nat.le_of_ble_eq_true rfl) (Nat.le_of_ble_eq_true rfl) h (fun m147 hG h => ?_)
    refine mm_goto (pc := 150) (tgt := 183) dX12_qPartTold_150 (by decide) ?_
    refine mm_goto (pc := 183) (tgt := 2) dX12_qPartTold_183 (by decide) ?_
    exact mm_sub [1, 2] rfl h
  · have h := mm_iff hc h
    refine mm_aload_n (pc := 126) (j := 1) dX12_qPartTold_126 rfl rfl ?_
    refine mm_iload (pc := 127) (j := 3) dX12_qPartTold_127 rfl ?_
    refine mm_if_eq (pc := 129) (tgt := 137) dX12_qPartTold_129 (by decide) (fun hc => ?_) (fun hc => ?_)
    · have h := mm_ift hc h
      refine mm_bipush (pc := 137) (x := 22) dX12_qPartTold_137 rfl ?_
      refine mm_iload (pc := 139) (j := 0) dX12_qPartTold_139 rfl ?_
      refine mm_kVV (pc := 141) [.int 22, .int u0] dX12_qPartTold_141 kX12_660 rfl sh_164 (Nat.le_of_ble_eq_true rfl) (Nat.le_of_ble_eq_true rfl) h (fun m141 hG h => ?_)
      refine mm_aload_n (pc := 144) (j := 1) dX12_qPartTold_144 rfl rfl ?_
      refine mm_bipush (pc := 145) (x := 40) dX12_qPartTold_145 rfl ?_
      refine mm_kVV (pc := 147) [.int 40] dX12_qPartTold_147 kX12_333 rfl sh_164 (Nat.le_of_ble_eq_true rfl) (Nat.le_of_ble_eq_true rfl) h (fun m147 hG h => ?_)
      refine mm_goto (pc := 150) (tgt := 183) dX12_qPartTold_150 (by decide) ?_
      refine mm_goto (pc := 183) (tgt := 2) dX12_qPartTold_183 (by decide) ?_
      exact mm_sub [1, 2] rfl h
    · have h := mm_iff hc h
      refine mm_bipush (pc := 132) (x := 21) dX12_qPartTold_132 rfl ?_
      refine mm_goto (pc := 134) (tgt := 139) dX12_qPartTold_134 (by decide) ?_
      refine mm_iload (pc := 139) (j := 0) dX12_qPartTold_139 rfl ?_
      refine mm_kVV (pc := 141) [.int 21, .int u0] dX12_qPartTold_141 kX12_660 rfl sh_164 (Nat.le_of_ble_eq_true rfl) (Nat.le_of_ble_eq_true rfl) h (fun m141 hG h => ?_)
      refine mm_aload_n (pc := 144) (j := 1) dX12_qPartTold_144 rfl rfl ?_
      refine mm_bipush (pc := 145) (x := 40) dX12_qPartTold_145 rfl ?_
      refine mm_kVV (pc := 147) [.int 40] dX12_qPartTold_147 kX12_333 rfl sh_164 (Nat.le_of_ble_eq_true rfl) (Nat.le_of_ble_eq_true rfl) h (fun m147 hG h => ?_)
      refine mm_goto (pc := 150) (tgt := 183) dX12_qPartTold_150 (by decide) ?_
      refine mm_goto (pc := 183) (tgt := 2) dX12_qPartTold_183 (by decide) ?_
      exact mm_sub [1, 2] rfl h
def jX12_qGoesOn_122 (d : Nat) (M : mm_M) (K : Int32 → mm_M → Prop) : Prop := mm_W mX12_qGoesOn (d + 1) 0 0 122 [(0, .ref 164)] [] mm_SH M 0 0 (mm_PI K)
def jX12_qGoesOn_43 (d : Nat) (M : mm_M) (K : Int32 → mm_M → Prop) : Prop := mm_W mX12_qGoesOn (d + 1) 0 0 43 [(0, .ref 164)] [] mm_SH M 0 0 (mm_PI K)
def jX12_qGoesOn_140 (d : Nat) (M : mm_M) (K : Int32 → mm_M → Prop) : Prop := mm_W mX12_qGoesOn (d + 1) 0 0 140 [(0, .ref 164)] [] mm_SH M 0 0 (mm_PI K)
def jX12_qGoesOn_225 (d : Nat) (M : mm_M) (K : Int32 → mm_M → Prop) : Prop := mm_W mX12_qGoesOn (d + 1) 0 0 225 [(0, .ref 164)] [] mm_SH M 0 0 (mm_PI K)
def jX12_qGoesOn_326 (d : Nat) (M : mm_M) (K : Int32 → mm_M → Prop) : Prop := mm_W mX12_qGoesOn (d + 1) 0 0 326 [(0, .ref 164)] [] mm_SH M 0 0 (mm_PI K)
def jX12_qGoesOn_0 (d : Nat) (M : mm_M) (K : Int32 → mm_M → Prop) : Prop := mm_W mX12_qGoesOn (d + 1) 0 0 0 [(0, .ref 164)] [] mm_SH M 0 0 (mm_PI K)
def jX12_qGoesOn_162 (d : Nat) (M : mm_M) (K : Int32 → mm_M → Prop) (y1 : Int32) : Prop := mm_W mX12_qGoesOn (d + 1) 0 0 162 [(0, .ref 164), (1, .int y1)] [] mm_SH M 0 0 (mm_PI K)
def jX12_qGoesOn_247 (d : Nat) (M : mm_M) (K : Int32 → mm_M → Prop) (y1 : Int32) : Prop := mm_W mX12_qGoesOn (d + 1) 0 0 247 [(0, .ref 164), (1, .int y1)] [] mm_SH M 0 0 (mm_PI K)
set_option maxRecDepth 100000 in
set_option maxHeartbeats 4000000 in
theorem rX12_qGoesOn {d : Nat} {M : mm_M} {K : Int32 → mm_M → Prop} (hG : mm_G M.2.2) (h : if (M.1 164 5) = 0 then (mm_CI mX12_look d [.ref 164] M (fun z8 m8 => if z8 = 41 then (mm_CI mX12_qBracket d [.ref 164] m8 (fun z17 m17 => if z17 = 20 then (jX12_qGoesOn_43 d m17 K) else (mm_CI mX12_qBracket d [.ref 164] m17 (fun z26 m26 => if z26 = 23 then (jX12_qGoesOn_43 d m26 K) else (mm_CI mX12_qBracket d [.ref 164] m26 (fun z35 m35 => if z35 = 24 then (jX12_qGoesOn_43 d m35 K) else (jX12_qGoesOn_122 d m35 K))))))) else (jX12_qGoesOn_122 d m8 K))) else (jX12_qGoesOn_122 d M K)) : mm_CI mX12_qGoesOn (d + 1) [.ref 164] M K := by
  show mm_W mX12_qGoesOn (d + 1) 0 0 0 [(0, .ref 164)] [] mm_SH M 0 0 (mm_PI K)
  refine mm_aload_n (pc := 0) (j := 0) dX12_qGoesOn_0 rfl rfl ?_
  refine mm_getI (pc := 1) (ci := 12) (N := 116) dX12_qGoesOn_1 fX12_260 sh_164 rfl ?_
  refine mm_if_ne (pc := 4) (tgt := 122) dX12_qGoesOn_4 (by decide) (fun hc => ?_) (fun hc => ?_)
  · have h := mm_iff hc h
    exact h
  · have h := mm_ift hc h
    refine mm_aload_n (pc := 7) (j := 0) dX12_qGoesOn_7 rfl rfl ?_
    refine mm_kVI (pc := 8) [] dX12_qGoesOn_8 kX12_272 rfl sh_164 (Nat.le_of_ble_eq_true rfl) (Nat.le_of_ble_eq_true rfl) h (fun z8 m8 hG h => ?_)
    refine mm_bipush (pc := 11) (x := 41) dX12_qGoesOn_11 rfl ?_
    refine mm_icmp_ne (pc := 13) (tgt := 122) dX12_qGoesOn_13 (by decide) (fun hc => ?_) (fun hc => ?_)
    · have h := mm_iff hc h
      exact h
    · have h := mm_ift hc h
      refine mm_aload_n (pc := 16) (j := 0) dX12_qGoesOn_16 rfl rfl ?_
      refine mm_kVI (pc := 17) [] dX12_qGoesOn_17 kX12_669 rfl sh_164 (Nat.le_of_ble_eq_true rfl) (Nat.le_of_ble_eq_true rfl) h (fun z17 m17 hG h => ?_)
      refine mm_bipush (pc := 20) (x := 20) dX12_qGoesOn_20 rfl ?_
      refine mm_icmp_eq (pc := 22) (tgt := 43) dX12_qGoesOn_22 (by decide) (fun hc => ?_) (fun hc => ?_)
      · have h := mm_ift hc h
        exact h
      · have h := mm_iff hc h
        refine mm_aload_n (pc := 25) (j := 0) dX12_qGoesOn_25 rfl rfl ?_
        refine mm_kVI (pc := 26) [] dX12_qGoesOn_26 kX12_669 rfl sh_164 (Nat.le_of_ble_eq_true rfl) (Nat.le_of_ble_eq_true rfl) h (fun z26 m26 hG h => ?_)
        refine mm_bipush (pc := 29) (x := 23) dX12_qGoesOn_29 rfl ?_
        refine mm_icmp_eq (pc := 31) (tgt := 43) dX12_qGoesOn_31 (by decide) (fun hc => ?_) (fun hc => ?_)
        · have h := mm_ift hc h
          exact h
        · have h := mm_iff hc h
          refine mm_aload_n (pc := 34) (j := 0) dX12_qGoesOn_34 rfl rfl ?_
          refine mm_kVI (pc := 35) [] dX12_qGoesOn_35 kX12_669 rfl sh_164 (Nat.le_of_ble_eq_true rfl) (Nat.le_of_ble_eq_true rfl) h (fun z35 m35 hG h => ?_)
          refine mm_bipush (pc := 38) (x := 24) dX12_qGoesOn_38 rfl ?_
          refine mm_icmp_ne (pc := 40) (tgt := 122) dX12_qGoesOn_40 (by decide) (fun hc => ?_) (fun hc => ?_)
          · have h := mm_iff hc h
            exact h
          · have h := mm_ift hc h
            exact h
set_option maxRecDepth 100000 in
set_option maxHeartbeats 4000000 in
theorem lX12_qGoesOn_122 {d : Nat} {M : mm_M} {K : Int32 → mm_M → Prop} (hG : mm_G M.2.2) (h : mm_CI mX12_takesSign d [.ref 164, .int 42] M (fun z125 m125 => if z125 = 0 then (mm_CI mX12_takesSign d [.ref 164, .int 47] m125 (fun z134 m134 => if z134 = 0 then (mm_CI mX12_takesSign d [.ref 164, .int 43] m134 (fun z210 m210 => if z210 = 0 then (mm_CI mX12_takesSign d [.ref 164, .int 45] m210 (fun z219 m219 => if z219 = 0 then (mm_CI mX12_qBracket d [.ref 164] m219 (fun z309 m309 => if z309 = 21 then (jX12_qGoesOn_326 d m309 K) else (mm_CI mX12_qBracket d [.ref 164] m309 (fun z318 m318 => if z318 = 22 then (jX12_qGoesOn_326 d m318 K) else (mm_CI mX12_qBracket d [.ref 164] m318 (fun z363 m363 => if z363 = (-1) then (K 0 m363) else (if (m363.1 164 5) = 0 then (mm_CV mX12_fail d [.ref 164, .int 1, .int (m363.1 164 2)] m363 (fun m383 => K 0 m383)) else (K 0 m363)))))))) else (jX12_qGoesOn_225 d m219 K))) else (jX12_qGoesOn_225 d m210 K))) else (jX12_qGoesOn_140 d m134 K))) else (jX12_qGoesOn_140 d m125 K))) : jX12_qGoesOn_122 d  M K  := by
  unfold jX12_qGoesOn_122
  refine mm_aload_n (pc := 122) (j := 0) dX12_qGoesOn_122 rfl rfl ?_
  refine mm_bipush (pc := 123) (x := 42) dX12_qGoesOn_123 rfl ?_
  refine mm_kVI (pc := 125) [.int 42] dX12_qGoesOn_125 kX12_294 rfl sh_164 (Nat.le_of_ble_eq_true rfl) (Nat.le_of_ble_eq_true rfl) h (fun z125 m125 hG h => ?_)
  refine mm_if_ne (pc := 128) (tgt := 140) dX12_qGoesOn_128 (by decide) (fun hc => ?_) (fun hc => ?_)
  · have h := mm_iff hc h
    exact h
  · have h := mm_ift hc h
    refine mm_aload_n (pc := 131) (j := 0) dX12_qGoesOn_131 rfl rfl ?_
    refine mm_bipush (pc := 132) (x := 47) dX12_qGoesOn_132 rfl ?_
    refine mm_kVI (pc := 134) [.int 47] dX12_qGoesOn_134 kX12_294 rfl sh_164 (Nat.le_of_ble_eq_true rfl) (Nat.le_of_ble_eq_true rfl) h (fun z134 m134 hG h => ?_)
    refine mm_if_eq (pc := 137) (tgt := 207) dX12_qGoesOn_137 (by decide) (fun hc => ?_) (fun hc => ?_)
    · have h := mm_ift hc h
      refine mm_aload_n (pc := 207) (j := 0) dX12_qGoesOn_207 rfl rfl ?_
      refine mm_bipush (pc := 208) (x := 43) dX12_qGoesOn_208 rfl ?_
      refine mm_kVI (pc := 210) [.int 43] dX12_qGoesOn_210 kX12_294 rfl sh_164 (Nat.le_of_ble_eq_true rfl) (Nat.le_of_ble_eq_true rfl) h (fun z210 m210 hG h => ?_)
      refine mm_if_ne (pc := 213) (tgt := 225) dX12_qGoesOn_213 (by decide) (fun hc => ?_) (fun hc => ?_)
      · have h := mm_iff hc h
        exact h
      · have h := mm_ift hc h
        refine mm_aload_n (pc := 216) (j := 0) dX12_qGoesOn_216 rfl rfl ?_
        refine mm_bipush (pc := 217) (x := 45) dX12_qGoesOn_217 rfl ?_
        refine mm_kVI (pc := 219) [.int 45] dX12_qGoesOn_219 kX12_294 rfl sh_164 (Nat.le_of_ble_eq_true rfl) (Nat.le_of_ble_eq_true rfl) h (fun z219 m219 hG h => ?_)
        refine mm_if_eq (pc := 222) (tgt := 308) dX12_qGoesOn_222 (by decide) (fun hc => ?_) (fun hc => ?_)
        · have h := mm_ift hc h
          refine mm_aload_n (pc := 308) (j := 0) dX12_qGoesOn_308 rfl rfl ?_
          refine mm_kVI (pc := 309) [] dX12_qGoesOn_309 kX12_669 rfl sh_164 (Nat.le_of_ble_eq_true rfl) (Nat.le_of_ble_eq_true rfl) h (fun z309 m309 hG h => ?_)
          refine mm_bipush (pc := 312) (x := 21) dX12_qGoesOn_312 rfl ?_
          refine mm_icmp_eq (pc := 314) (tgt := 326) dX12_qGoesOn_314 (by decide) (fun hc => ?_) (fun hc => ?_)
          · have h := mm_ift hc h
            exact h
          · have h := mm_iff hc h
            refine mm_aload_n (pc := 317) (j := 0) dX12_qGoesOn_317 rfl rfl ?_
            refine mm_kVI (pc := 318) [] dX12_qGoesOn_318 kX12_669 rfl sh_164 (Nat.le_of_ble_eq_true rfl) (Nat.le_of_ble_eq_true rfl) h (fun z318 m318 hG h => ?_)
            refine mm_bipush (pc := 321) (x := 22) dX12_qGoesOn_321 rfl ?_
            refine mm_icmp_ne (pc := 323) (tgt := 362) dX12_qGoesOn_323 (by decide) (fun hc => ?_) (fun hc => ?_)
            · have h := mm_iff hc h
              refine mm_aload_n (pc := 362) (j := 0) dX12_qGoesOn_362 rfl rfl ?_
              refine mm_kVI (pc := 363) [] dX12_qGoesOn_363 kX12_669 rfl sh_164 (Nat.le_of_ble_eq_true rfl) (Nat.le_of_ble_eq_true rfl) h (fun z363 m363 hG h => ?_)
              refine mm_iconst (pc := 366) (x := (-1)) dX12_qGoesOn_366 rfl ?_
              refine mm_icmp_eq (pc := 367) (tgt := 386) dX12_qGoesOn_367 (by decide) (fun hc => ?_) (fun hc => ?_)
              · have h := mm_ift hc h
                refine mm_iconst (pc := 386) (x := 0) dX12_qGoesOn_386 rfl ?_
                exact mm_zret (pc := 387) dX12_qGoesOn_387 rfl rfl (Nat.le_refl 0) (Nat.le_refl 0) ⟨_, rfl, rfl, hG, h⟩
              · have h := mm_iff hc h
                refine mm_aload_n (pc := 370) (j := 0) dX12_qGoesOn_370 rfl rfl ?_
                refine mm_getI (pc := 371) (ci := 12) (N := 116) dX12_qGoesOn_371 fX12_260 sh_164 rfl ?_
                refine mm_if_ne (pc := 374) (tgt := 386) dX12_qGoesOn_374 (by decide) (fun hc => ?_) (fun hc => ?_)
                · have h := mm_iff hc h
                  refine mm_iconst (pc := 386) (x := 0) dX12_qGoesOn_386 rfl ?_
                  exact mm_zret (pc := 387) dX12_qGoesOn_387 rfl rfl (Nat.le_refl 0) (Nat.le_refl 0) ⟨_, rfl, rfl, hG, h⟩
                · have h := mm_ift hc h
                  refine mm_aload_n (pc := 377) (j := 0) dX12_qGoesOn_377 rfl rfl ?_
                  refine mm_iconst (pc := 378) (x := 1) dX12_qGoesOn_378 rfl ?_
                  refine mm_aload_n (pc := 379) (j := 0) dX12_qGoesOn_379 rfl rfl ?_
                  refine mm_getI (pc := 380) (ci := 12) (N := 116) dX12_qGoesOn_380 fX12_266 sh_164 rfl ?_
                  refine mm_kVV (pc := 383) [.int 1, .int (m363.1 164 2)] dX12_qGoesOn_383 kX12_290 rfl sh_164 (Nat.le_of_ble_eq_true rfl) (Nat.le_of_ble_eq_true rfl) h (fun m383 hG h => ?_)
                  refine mm_iconst (pc := 386) (x := 0) dX12_qGoesOn_386 rfl ?_
                  exact mm_zret (pc := 387) dX12_qGoesOn_387 rfl rfl (Nat.le_refl 0) (Nat.le_refl 0) ⟨_, rfl, rfl, hG, h⟩
            · have h := mm_ift hc h
              exact h
        · have h := mm_iff hc h
          exact h
    · have h := mm_iff hc h
      exact h
set_option maxRecDepth 100000 in
set_option maxHeartbeats 4000000 in
theorem lX12_qGoesOn_43 {d : Nat} {M : mm_M} {K : Int32 → mm_M → Prop} (hG : mm_G M.2.2) (h : mm_CV mX12_qDropsToBracket d [.ref 164] (mm_uI M 164 2 ((M.1 164 2) + 1)) (fun m54 => vp_in ((mm_uI (mm_uI m54 164 107 ((m54.1 164 107) - 1)) 164 108 (((mm_uI m54 164 107 ((m54.1 164 107) - 1)).1 164 108) - 1)).1 164 107) 1700 ∧ if ((mm_uI (mm_uI m54 164 107 ((m54.1 164 107) - 1)) 164 108 (((mm_uI m54 164 107 ((m54.1 164 107) - 1)).1 164 108) - 1)).1 240 ((mm_uI (mm_uI m54 164 107 ((m54.1 164 107) - 1)) 164 108 (((mm_uI m54 164 107 ((m54.1 164 107) - 1)).1 164 108) - 1)).1 164 107).toNatClampNeg) = 20 then (mm_CV mX12_qEndsPart d [.ref 164] (mm_uI (mm_uI m54 164 107 ((m54.1 164 107) - 1)) 164 108 (((mm_uI m54 164 107 ((m54.1 164 107) - 1)).1 164 108) - 1)) (fun m116 => jX12_qGoesOn_0 d m116 K)) else (vp_in ((mm_uI (mm_uI m54 164 107 ((m54.1 164 107) - 1)) 164 108 (((mm_uI m54 164 107 ((m54.1 164 107) - 1)).1 164 108) - 1)).1 164 107) 1700 ∧ if ((mm_uI (mm_uI m54 164 107 ((m54.1 164 107) - 1)) 164 108 (((mm_uI m54 164 107 ((m54.1 164 107) - 1)).1 164 108) - 1)).1 240 ((mm_uI (mm_uI m54 164 107 ((m54.1 164 107) - 1)) 164 108 (((mm_uI m54 164 107 ((m54.1 164 107) - 1)).1 164 108) - 1)).1 164 107).toNatClampNeg) = 23 then (mm_CV mX12_qCode d [.ref 164, .int 5] (mm_uI (mm_uI m54 164 107 ((m54.1 164 107) - 1)) 164 108 (((mm_uI m54 164 107 ((m54.1 164 107) - 1)).1 164 108) - 1)) (fun m112 => mm_CV mX12_qEndsPart d [.ref 164] m112 (fun m116 => jX12_qGoesOn_0 d m116 K))) else (mm_CV mX12_qCode d [.ref 164, .int 6] (mm_uI (mm_uI m54 164 107 ((m54.1 164 107) - 1)) 164 108 (((mm_uI m54 164 107 ((m54.1 164 107) - 1)).1 164 108) - 1)) (fun m112 => mm_CV mX12_qEndsPart d [.ref 164] m112 (fun m116 => jX12_qGoesOn_0 d m116 K)))))) : jX12_qGoesOn_43 d  M K  := by
  unfold jX12_qGoesOn_43
  refine mm_aload_n (pc := 43) (j := 0) dX12_qGoesOn_43 rfl rfl ?_
  refine mm_dup (pc := 44) dX12_qGoesOn_44 rfl ?_
  refine mm_getI (pc := 45) (ci := 12) (N := 116) dX12_qGoesOn_45 fX12_266 sh_164 rfl ?_
  refine mm_iconst (pc := 48) (x := 1) dX12_qGoesOn_48 rfl ?_
  refine mm_iadd (pc := 49) dX12_qGoesOn_49 ?_
  refine mm_putI (pc := 50) (ci := 12) (N := 116) dX12_qGoesOn_50 fX12_266 sh_164 (by decide +kernel) rfl rfl rfl ?_
  refine mm_aload_n (pc := 53) (j := 0) dX12_qGoesOn_53 rfl rfl ?_
  refine mm_kVV (pc := 54) [] dX12_qGoesOn_54 kX12_672 rfl sh_164 (Nat.le_of_ble_eq_true rfl) (Nat.le_of_ble_eq_true rfl) h (fun m54 hG h => ?_)
  refine mm_aload_n (pc := 57) (j := 0) dX12_qGoesOn_57 rfl rfl ?_
  refine mm_dup (pc := 58) dX12_qGoesOn_58 rfl ?_
  refine mm_getI (pc := 59) (ci := 12) (N := 116) dX12_qGoesOn_59 fX12_357 sh_164 rfl ?_
  refine mm_iconst (pc := 62) (x := 1) dX12_qGoesOn_62 rfl ?_
  refine mm_isub (pc := 63) dX12_qGoesOn_63 ?_
  refine mm_putI (pc := 64) (ci := 12) (N := 116) dX12_qGoesOn_64 fX12_357 sh_164 (by decide +kernel) rfl rfl rfl ?_
  refine mm_aload_n (pc := 67) (j := 0) dX12_qGoesOn_67 rfl rfl ?_
  refine mm_dup (pc := 68) dX12_qGoesOn_68 rfl ?_
  refine mm_getI (pc := 69) (ci := 12) (N := 116) dX12_qGoesOn_69 fX12_360 sh_164 rfl ?_
  refine mm_iconst (pc := 72) (x := 1) dX12_qGoesOn_72 rfl ?_
  refine mm_isub (pc := 73) dX12_qGoesOn_73 ?_
  refine mm_putI (pc := 74) (ci := 12) (N := 116) dX12_qGoesOn_74 fX12_360 sh_164 (by decide +kernel) rfl rfl rfl ?_
  refine mm_aload_n (pc := 77) (j := 0) dX12_qGoesOn_77 rfl rfl ?_
  refine mm_getR (pc := 78) (ci := 12) (N := 116) (r := 240) dX12_qGoesOn_78 fX12_246 sh_164 rfl (g_164_106 hG) ?_
  refine mm_aload_n (pc := 81) (j := 0) dX12_qGoesOn_81 rfl rfl ?_
  refine mm_getI (pc := 82) (ci := 12) (N := 116) dX12_qGoesOn_82 fX12_357 sh_164 rfl ?_
  obtain ⟨hi85, h⟩ := h
  refine mm_iaload (pc := 85) (N := 1700) dX12_qGoesOn_85 sh_240 hi85 ?_
  refine mm_bipush (pc := 86) (x := 20) dX12_qGoesOn_86 rfl ?_
  refine mm_icmp_eq (pc := 88) (tgt := 115) dX12_qGoesOn_88 (by decide) (fun hc => ?_) (fun hc => ?_)
  · have h := mm_ift hc h
    refine mm_aload_n (pc := 115) (j := 0) dX12_qGoesOn_115 rfl rfl ?_
    refine mm_kVV (pc := 116) [] dX12_qGoesOn_116 kX12_666 rfl sh_164 (Nat.le_of_ble_eq_true rfl) (Nat.le_of_ble_eq_true rfl) h (fun m116 hG h => ?_)
    refine mm_goto (pc := 119) (tgt := 0) dX12_qGoesOn_119 (by decide) ?_
    exact h
  · have h := mm_iff hc h
    refine mm_aload_n (pc := 91) (j := 0) dX12_qGoesOn_91 rfl rfl ?_
    refine mm_aload_n (pc := 92) (j := 0) dX12_qGoesOn_92 rfl rfl ?_
    refine mm_getR (pc := 93) (ci := 12) (N := 116) (r := 240) dX12_qGoesOn_93 fX12_246 sh_164 rfl (g_164_106 hG) ?_
    refine mm_aload_n (pc := 96) (j := 0) dX12_qGoesOn_96 rfl rfl ?_
    refine mm_getI (pc := 97) (ci := 12) (N := 116) dX12_qGoesOn_97 fX12_357 sh_164 rfl ?_
    obtain ⟨hi100, h⟩ := h
    refine mm_iaload (pc := 100) (N := 1700) dX12_qGoesOn_100 sh_240 hi100 ?_
    refine mm_bipush (pc := 101) (x := 23) dX12_qGoesOn_101 rfl ?_
    refine mm_icmp_ne (pc := 103) (tgt := 110) dX12_qGoesOn_103 (by decide) (fun hc => ?_) (fun hc => ?_)
    · have h := mm_iff hc h
      refine mm_bipush (pc := 110) (x := 6) dX12_qGoesOn_110 rfl ?_
      refine mm_kVV (pc := 112) [.int 6] dX12_qGoesOn_112 kX12_642 rfl sh_164 (Nat.le_of_ble_eq_true rfl) (Nat.le_of_ble_eq_true rfl) h (fun m112 hG h => ?_)
      refine mm_aload_n (pc := 115) (j := 0) dX12_qGoesOn_115 rfl rfl ?_
      refine mm_kVV (pc := 116) [] dX12_qGoesOn_116 kX12_666 rfl sh_164 (Nat.le_of_ble_eq_true rfl) (Nat.le_of_ble_eq_true rfl) h (fun m116 hG h => ?_)
      refine mm_goto (pc := 119) (tgt := 0) dX12_qGoesOn_119 (by decide) ?_
      exact h
    · have h := mm_ift hc h
      refine mm_iconst (pc := 106) (x := 5) dX12_qGoesOn_106 rfl ?_
      refine mm_goto (pc := 107) (tgt := 112) dX12_qGoesOn_107 (by decide) ?_
      refine mm_kVV (pc := 112) [.int 5] dX12_qGoesOn_112 kX12_642 rfl sh_164 (Nat.le_of_ble_eq_true rfl) (Nat.le_of_ble_eq_true rfl) h (fun m112 hG h => ?_)
      refine mm_aload_n (pc := 115) (j := 0) dX12_qGoesOn_115 rfl rfl ?_
      refine mm_kVV (pc := 116) [] dX12_qGoesOn_116 kX12_666 rfl sh_164 (Nat.le_of_ble_eq_true rfl) (Nat.le_of_ble_eq_true rfl) h (fun m116 hG h => ?_)
      refine mm_goto (pc := 119) (tgt := 0) dX12_qGoesOn_119 (by decide) ?_
      exact h
set_option maxRecDepth 100000 in
set_option maxHeartbeats 4000000 in
theorem lX12_qGoesOn_140 {d : Nat} {M : mm_M} {K : Int32 → mm_M → Prop} (hG : mm_G M.2.2) (h : vp_in ((M.1 164 2) - 1) 1600 ∧ if (M.1 165 ((M.1 164 2) - 1).toNatClampNeg) = 42 then (jX12_qGoesOn_162 d M K 3) else (jX12_qGoesOn_162 d M K 4)) : jX12_qGoesOn_140 d  M K  := by
  unfold jX12_qGoesOn_140
  refine mm_aload_n (pc := 140) (j := 0) dX12_qGoesOn_140 rfl rfl ?_
  refine mm_getR (pc := 141) (ci := 12) (N := 116) (r := 165) dX12_qGoesOn_141 fX12_7 sh_164 rfl (g_164_0 hG) ?_
  refine mm_aload_n (pc := 144) (j := 0) dX12_qGoesOn_144 rfl rfl ?_
  refine mm_getI (pc := 145) (ci := 12) (N := 116) dX12_qGoesOn_145 fX12_266 sh_164 rfl ?_
  refine mm_iconst (pc := 148) (x := 1) dX12_qGoesOn_148 rfl ?_
  refine mm_isub (pc := 149) dX12_qGoesOn_149 ?_
  obtain ⟨hi150, h⟩ := h
  refine mm_iaload (pc := 150) (N := 1600) dX12_qGoesOn_150 sh_165 hi150 ?_
  refine mm_bipush (pc := 151) (x := 42) dX12_qGoesOn_151 rfl ?_
  refine mm_icmp_ne (pc := 153) (tgt := 160) dX12_qGoesOn_153 (by decide) (fun hc => ?_) (fun hc => ?_)
  · have h := mm_iff hc h
    refine mm_iconst (pc := 160) (x := 4) dX12_qGoesOn_160 rfl ?_
    refine mm_istore_n (pc := 161) (lv' := [(1, .int 4), (0, .ref 164)]) dX12_qGoesOn_161 rfl (by decide) rfl ?_
    exact mm_sub [1, 0] rfl h
  · have h := mm_ift hc h
    refine mm_iconst (pc := 156) (x := 3) dX12_qGoesOn_156 rfl ?_
    refine mm_goto (pc := 157) (tgt := 161) dX12_qGoesOn_157 (by decide) ?_
    refine mm_istore_n (pc := 161) (lv' := [(1, .int 3), (0, .ref 164)]) dX12_qGoesOn_161 rfl (by decide) rfl ?_
    exact mm_sub [1, 0] rfl h
set_option maxRecDepth 100000 in
set_option maxHeartbeats 4000000 in
theorem lX12_qGoesOn_225 {d : Nat} {M : mm_M} {K : Int32 → mm_M → Prop} (hG : mm_G M.2.2) (h : vp_in ((M.1 164 2) - 1) 1600 ∧ if (M.1 165 ((M.1 164 2) - 1).toNatClampNeg) = 43 then (jX12_qGoesOn_247 d M K 1) else (jX12_qGoesOn_247 d M K 2)) : jX12_qGoesOn_225 d  M K  := by
  unfold jX12_qGoesOn_225
  refine mm_aload_n (pc := 225) (j := 0) dX12_qGoesOn_225 rfl rfl ?_
  refine mm_getR (pc := 226) (ci := 12) (N := 116) (r := 165) dX12_qGoesOn_226 fX12_7 sh_164 rfl (g_164_0 hG) ?_
  refine mm_aload_n (pc := 229) (j := 0) dX12_qGoesOn_229 rfl rfl ?_
  refine mm_getI (pc := 230) (ci := 12) (N := 116) dX12_qGoesOn_230 fX12_266 sh_164 rfl ?_
  refine mm_iconst (pc := 233) (x := 1) dX12_qGoesOn_233 rfl ?_
  refine mm_isub (pc := 234) dX12_qGoesOn_234 ?_
  obtain ⟨hi235, h⟩ := h
  refine mm_iaload (pc := 235) (N := 1600) dX12_qGoesOn_235 sh_165 hi235 ?_
  refine mm_bipush (pc := 236) (x := 43) dX12_qGoesOn_236 rfl ?_
  refine mm_icmp_ne (pc := 238) (tgt := 245) dX12_qGoesOn_238 (by decide) (fun hc => ?_) (fun hc => ?_)
  · have h := mm_iff hc h
    refine mm_iconst (pc := 245) (x := 2) dX12_qGoesOn_245 rfl ?_
    refine mm_istore_n (pc := 246) (lv' := [(1, .int 2), (0, .ref 164)]) dX12_qGoesOn_246 rfl (by decide) rfl ?_
    exact mm_sub [1, 0] rfl h
  · have h := mm_ift hc h
    refine mm_iconst (pc := 241) (x := 1) dX12_qGoesOn_241 rfl ?_
    refine mm_goto (pc := 242) (tgt := 246) dX12_qGoesOn_242 (by decide) ?_
    refine mm_istore_n (pc := 246) (lv' := [(1, .int 1), (0, .ref 164)]) dX12_qGoesOn_246 rfl (by decide) rfl ?_
    exact mm_sub [1, 0] rfl h
set_option maxRecDepth 100000 in
set_option maxHeartbeats 4000000 in
theorem lX12_qGoesOn_326 {d : Nat} {M : mm_M} {K : Int32 → mm_M → Prop} (hG : mm_G M.2.2) (h : mm_CV mX12_asksSign d [.ref 164, .int 44] M (fun m329 => if (m329.1 164 5) = 0 then (mm_CV mX12_qDropsToBracket d [.ref 164] m329 (fun m342 => vp_in ((m342.1 164 107) - 1) 1700 ∧ vp_in ((m342.1 164 107) - 1) 1700 ∧ K 1 (mm_uI m342 240 ((m342.1 164 107) - 1).toNatClampNeg ((m342.1 240 ((m342.1 164 107) - 1).toNatClampNeg) + 2)))) else (K 0 m329))) : jX12_qGoesOn_326 d  M K  := by
  unfold jX12_qGoesOn_326
  refine mm_aload_n (pc := 326) (j := 0) dX12_qGoesOn_326 rfl rfl ?_
  refine mm_bipush (pc := 327) (x := 44) dX12_qGoesOn_327 rfl ?_
  refine mm_kVV (pc := 329) [.int 44] dX12_qGoesOn_329 kX12_333 rfl sh_164 (Nat.le_of_ble_eq_true rfl) (Nat.le_of_ble_eq_true rfl) h (fun m329 hG h => ?_)
  refine mm_aload_n (pc := 332) (j := 0) dX12_qGoesOn_332 rfl rfl ?_
  refine mm_getI (pc := 333) (ci := 12) (N := 116) dX12_qGoesOn_333 fX12_260 sh_164 rfl ?_
  refine mm_if_eq (pc := 336) (tgt := 341) dX12_qGoesOn_336 (by decide) (fun hc => ?_) (fun hc => ?_)
  · have h := mm_ift hc h
    refine mm_aload_n (pc := 341) (j := 0) dX12_qGoesOn_341 rfl rfl ?_
    refine mm_kVV (pc := 342) [] dX12_qGoesOn_342 kX12_672 rfl sh_164 (Nat.le_of_ble_eq_true rfl) (Nat.le_of_ble_eq_true rfl) h (fun m342 hG h => ?_)
    refine mm_aload_n (pc := 345) (j := 0) dX12_qGoesOn_345 rfl rfl ?_
    refine mm_getR (pc := 346) (ci := 12) (N := 116) (r := 240) dX12_qGoesOn_346 fX12_246 sh_164 rfl (g_164_106 hG) ?_
    refine mm_aload_n (pc := 349) (j := 0) dX12_qGoesOn_349 rfl rfl ?_
    refine mm_getI (pc := 350) (ci := 12) (N := 116) dX12_qGoesOn_350 fX12_357 sh_164 rfl ?_
    refine mm_iconst (pc := 353) (x := 1) dX12_qGoesOn_353 rfl ?_
    refine mm_isub (pc := 354) dX12_qGoesOn_354 ?_
    refine mm_dup2 (pc := 355) dX12_qGoesOn_355 rfl rfl ?_
    obtain ⟨hi356, h⟩ := h
    refine mm_iaload (pc := 356) (N := 1700) dX12_qGoesOn_356 sh_240 hi356 ?_
    refine mm_iconst (pc := 357) (x := 2) dX12_qGoesOn_357 rfl ?_
    refine mm_iadd (pc := 358) dX12_qGoesOn_358 ?_
    obtain ⟨hi359, h⟩ := h
    refine mm_iastore (pc := 359) (N := 1700) dX12_qGoesOn_359 sh_240 hi359 ?_
    refine mm_iconst (pc := 360) (x := 1) dX12_qGoesOn_360 rfl ?_
    exact mm_zret (pc := 361) dX12_qGoesOn_361 rfl rfl (Nat.le_refl 0) (Nat.le_refl 0) ⟨_, rfl, rfl, hG, h⟩
  · have h := mm_iff hc h
    refine mm_iconst (pc := 339) (x := 0) dX12_qGoesOn_339 rfl ?_
    exact mm_zret (pc := 340) dX12_qGoesOn_340 rfl rfl (Nat.le_refl 0) (Nat.le_refl 0) ⟨_, rfl, rfl, hG, h⟩
set_option maxRecDepth 100000 in
set_option maxHeartbeats 4000000 in
theorem lX12_qGoesOn_0 {d : Nat} {M : mm_M} {K : Int32 → mm_M → Prop} (hG : mm_G M.2.2) (h : if (M.1 164 5) = 0 then (mm_CI mX12_look d [.ref 164] M (fun z8 m8 => if z8 = 41 then (mm_CI mX12_qBracket d [.ref 164] m8 (fun z17 m17 => if z17 = 20 then (jX12_qGoesOn_43 d m17 K) else (mm_CI mX12_qBracket d [.ref 164] m17 (fun z26 m26 => if z26 = 23 then (jX12_qGoesOn_43 d m26 K) else (mm_CI mX12_qBracket d [.ref 164] m26 (fun z35 m35 => if z35 = 24 then (jX12_qGoesOn_43 d m35 K) else (jX12_qGoesOn_122 d m35 K))))))) else (jX12_qGoesOn_122 d m8 K))) else (jX12_qGoesOn_122 d M K)) : jX12_qGoesOn_0 d  M K  := by
  unfold jX12_qGoesOn_0
  refine mm_aload_n (pc := 0) (j := 0) dX12_qGoesOn_0 rfl rfl ?_
  refine mm_getI (pc := 1) (ci := 12) (N := 116) dX12_qGoesOn_1 fX12_260 sh_164 rfl ?_
  refine mm_if_ne (pc := 4) (tgt := 122) dX12_qGoesOn_4 (by decide) (fun hc => ?_) (fun hc => ?_)
  · have h := mm_iff hc h
    exact h
  · have h := mm_ift hc h
    refine mm_aload_n (pc := 7) (j := 0) dX12_qGoesOn_7 rfl rfl ?_
    refine mm_kVI (pc := 8) [] dX12_qGoesOn_8 kX12_272 rfl sh_164 (Nat.le_of_ble_eq_true rfl) (Nat.le_of_ble_eq_true rfl) h (fun z8 m8 hG h => ?_)
    refine mm_bipush (pc := 11) (x := 41) dX12_qGoesOn_11 rfl ?_
    refine mm_icmp_ne (pc := 13) (tgt := 122) dX12_qGoesOn_13 (by decide) (fun hc => ?_) (fun hc => ?_)
    · have h := mm_iff hc h
      exact h
    · have h := mm_ift hc h
      refine mm_aload_n (pc := 16) (j := 0) dX12_qGoesOn_16 rfl rfl ?_
      refine mm_kVI (pc := 17) [] dX12_qGoesOn_17 kX12_669 rfl sh_164 (Nat.le_of_ble_eq_true rfl) (Nat.le_of_ble_eq_true rfl) h (fun z17 m17 hG h => ?_)
      refine mm_bipush (pc := 20) (x := 20) dX12_qGoesOn_20 rfl ?_
      refine mm_icmp_eq (pc := 22) (tgt := 43) dX12_qGoesOn_22 (by decide) (fun hc => ?_) (fun hc => ?_)
      · have h := mm_ift hc h
        exact h
      · have h := mm_iff hc h
        refine mm_aload_n (pc := 25) (j := 0) dX12_qGoesOn_25 rfl rfl ?_
        refine mm_kVI (pc := 26) [] dX12_qGoesOn_26 kX12_669 rfl sh_164 (Nat.le_of_ble_eq_true rfl) (Nat.le_of_ble_eq_true rfl) h (fun z26 m26 hG h => ?_)
        refine mm_bipush (pc := 29) (x := 23) dX12_qGoesOn_29 rfl ?_
        refine mm_icmp_eq (pc := 31) (tgt := 43) dX12_qGoesOn_31 (by decide) (fun hc => ?_) (fun hc => ?_)
        · have h := mm_ift hc h
          exact h
        · have h := mm_iff hc h
          refine mm_aload_n (pc := 34) (j := 0) dX12_qGoesOn_34 rfl rfl ?_
          refine mm_kVI (pc := 35) [] dX12_qGoesOn_35 kX12_669 rfl sh_164 (Nat.le_of_ble_eq_true rfl) (Nat.le_of_ble_eq_true rfl) h (fun z35 m35 hG h => ?_)
          refine mm_bipush (pc := 38) (x := 24) dX12_qGoesOn_38 rfl ?_
          refine mm_icmp_ne (pc := 40) (tgt := 122) dX12_qGoesOn_40 (by decide) (fun hc => ?_) (fun hc => ?_)
          · have h := mm_iff hc h
            exact h
          · have h := mm_ift hc h
            exact h
set_option maxRecDepth 100000 in
set_option maxHeartbeats 4000000 in
theorem lX12_qGoesOn_162 {d : Nat} {M : mm_M} {K : Int32 → mm_M → Prop} {y1 : Int32} (hG : mm_G M.2.2) (h : mm_CI mX12_qIsOn d [.ref 164, .int 3] M (fun z164 m164 => if z164 = 0 then (mm_CI mX12_qIsOn d [.ref 164, .int 4] m164 (fun z172 m172 => if z172 = 0 then (vp_in (m172.1 164 107) 1700 ∧ K 1 (mm_uI (mm_uI m172 240 (m172.1 164 107).toNatClampNeg y1) 164 107 (((mm_uI m172 240 (m172.1 164 107).toNatClampNeg y1).1 164 107) + 1))) else (mm_CV mX12_qDrops d [.ref 164] m172 (fun m179 => jX12_qGoesOn_162 d m179 K y1)))) else (mm_CV mX12_qDrops d [.ref 164] m164 (fun m179 => jX12_qGoesOn_162 d m179 K y1)))) : jX12_qGoesOn_162 d  M K y1 := by
  unfold jX12_qGoesOn_162
  refine mm_aload_n (pc := 162) (j := 0) dX12_qGoesOn_162 rfl rfl ?_
  refine mm_iconst (pc := 163) (x := 3) dX12_qGoesOn_163 rfl ?_
  refine mm_kVI (pc := 164) [.int 3] dX12_qGoesOn_164 kX12_675 rfl sh_164 (Nat.le_of_ble_eq_true rfl) (Nat.le_of_ble_eq_true rfl) h (fun z164 m164 hG h => ?_)
  refine mm_if_ne (pc := 167) (tgt := 178) dX12_qGoesOn_167 (by decide) (fun hc => ?_) (fun hc => ?_)
  · have h := mm_iff hc h
    refine mm_aload_n (pc := 178) (j := 0) dX12_qGoesOn_178 rfl rfl ?_
    refine mm_kVV (pc := 179) [] dX12_qGoesOn_179 kX12_648 rfl sh_164 (Nat.le_of_ble_eq_true rfl) (Nat.le_of_ble_eq_true rfl) h (fun m179 hG h => ?_)
    refine mm_goto (pc := 182) (tgt := 162) dX12_qGoesOn_182 (by decide) ?_
    exact h
  · have h := mm_ift hc h
    refine mm_aload_n (pc := 170) (j := 0) dX12_qGoesOn_170 rfl rfl ?_
    refine mm_iconst (pc := 171) (x := 4) dX12_qGoesOn_171 rfl ?_
    refine mm_kVI (pc := 172) [.int 4] dX12_qGoesOn_172 kX12_675 rfl sh_164 (Nat.le_of_ble_eq_true rfl) (Nat.le_of_ble_eq_true rfl) h (fun z172 m172 hG h => ?_)
    refine mm_if_eq (pc := 175) (tgt := 185) dX12_qGoesOn_175 (by decide) (fun hc => ?_) (fun hc => ?_)
    · have h := mm_ift hc h
      refine mm_aload_n (pc := 185) (j := 0) dX12_qGoesOn_185 rfl rfl ?_
      refine mm_getR (pc := 186) (ci := 12) (N := 116) (r := 240) dX12_qGoesOn_186 fX12_246 sh_164 rfl (g_164_106 hG) ?_
      refine mm_aload_n (pc := 189) (j := 0) dX12_qGoesOn_189 rfl rfl ?_
      refine mm_getI (pc := 190) (ci := 12) (N := 116) dX12_qGoesOn_190 fX12_357 sh_164 rfl ?_
      refine mm_iload_n (pc := 193) (j := 1) dX12_qGoesOn_193 rfl rfl ?_
      obtain ⟨hi194, h⟩ := h
      refine mm_iastore (pc := 194) (N := 1700) dX12_qGoesOn_194 sh_240 hi194 ?_
      refine mm_aload_n (pc := 195) (j := 0) dX12_qGoesOn_195 rfl rfl ?_
      refine mm_dup (pc := 196) dX12_qGoesOn_196 rfl ?_
      refine mm_getI (pc := 197) (ci := 12) (N := 116) dX12_qGoesOn_197 fX12_357 sh_164 rfl ?_
      refine mm_iconst (pc := 200) (x := 1) dX12_qGoesOn_200 rfl ?_
      refine mm_iadd (pc := 201) dX12_qGoesOn_201 ?_
      refine mm_putI (pc := 202) (ci := 12) (N := 116) dX12_qGoesOn_202 fX12_357 sh_164 (by decide +kernel) rfl rfl rfl ?_
      refine mm_iconst (pc := 205) (x := 1) dX12_qGoesOn_205 rfl ?_
      exact mm_zret (pc := 206) dX12_qGoesOn_206 rfl rfl (Nat.le_refl 0) (Nat.le_refl 0) ⟨_, rfl, rfl, hG, h⟩
    · have h := mm_iff hc h
      refine mm_aload_n (pc := 178) (j := 0) dX12_qGoesOn_178 rfl rfl ?_
      refine mm_kVV (pc := 179) [] dX12_qGoesOn_179 kX12_648 rfl sh_164 (Nat.le_of_ble_eq_true rfl) (Nat.le_of_ble_eq_true rfl) h (fun m179 hG h => ?_)
      refine mm_goto (pc := 182) (tgt := 162) dX12_qGoesOn_182 (by decide) ?_
      exact h
set_option maxRecDepth 100000 in
set_option maxHeartbeats 4000000 in
theorem lX12_qGoesOn_247 {d : Nat} {M : mm_M} {K : Int32 → mm_M → Prop} {y1 : Int32} (hG : mm_G M.2.2) (h : mm_CI mX12_qIsOn d [.ref 164, .int 3] M (fun z249 m249 => if z249 = 0 then (mm_CI mX12_qIsOn d [.ref 164, .int 4] m249 (fun z257 m257 => if z257 = 0 then (mm_CI mX12_qIsOn d [.ref 164, .int 1] m257 (fun z265 m265 => if z265 = 0 then (mm_CI mX12_qIsOn d [.ref 164, .int 2] m265 (fun z273 m273 => if z273 = 0 then (vp_in (m273.1 164 107) 1700 ∧ K 1 (mm_uI (mm_uI m273 240 (m273.1 164 107).toNatClampNeg y1) 164 107 (((mm_uI m273 240 (m273.1 164 107).toNatClampNeg y1).1 164 107) + 1))) else (mm_CV mX12_qDrops d [.ref 164] m273 (fun m280 => jX12_qGoesOn_247 d m280 K y1)))) else (mm_CV mX12_qDrops d [.ref 164] m265 (fun m280 => jX12_qGoesOn_247 d m280 K y1)))) else (mm_CV mX12_qDrops d [.ref 164] m257 (fun m280 => jX12_qGoesOn_247 d m280 K y1)))) else (mm_CV mX12_qDrops d [.ref 164] m249 (fun m280 => jX12_qGoesOn_247 d m280 K y1)))) : jX12_qGoesOn_247 d  M K y1 := by
  unfold jX12_qGoesOn_247
  refine mm_aload_n (pc := 247) (j := 0) dX12_qGoesOn_247 rfl rfl ?_
  refine mm_iconst (pc := 248) (x := 3) dX12_qGoesOn_248 rfl ?_
  refine mm_kVI (pc := 249) [.int 3] dX12_qGoesOn_249 kX12_675 rfl sh_164 (Nat.le_of_ble_eq_true rfl) (Nat.le_of_ble_eq_true rfl) h (fun z249 m249 hG h => ?_)
  refine mm_if_ne (pc := 252) (tgt := 279) dX12_qGoesOn_252 (by decide) (fun hc => ?_) (fun hc => ?_)
  · have h := mm_iff hc h
    refine mm_aload_n (pc := 279) (j := 0) dX12_qGoesOn_279 rfl rfl ?_
    refine mm_kVV (pc := 280) [] dX12_qGoesOn_280 kX12_648 rfl sh_164 (Nat.le_of_ble_eq_true rfl) (Nat.le_of_ble_eq_true rfl) h (fun m280 hG h => ?_)
    refine mm_goto (pc := 283) (tgt := 247) dX12_qGoesOn_283 (by decide) ?_
    exact h
  · have h := mm_ift hc h
    refine mm_aload_n (pc := 255) (j := 0) dX12_qGoesOn_255 rfl rfl ?_
    refine mm_iconst (pc := 256) (x := 4) dX12_qGoesOn_256 rfl ?_
    refine mm_kVI (pc := 257) [.int 4] dX12_qGoesOn_257 kX12_675 rfl sh_164 (Nat.le_of_ble_eq_true rfl) (Nat.le_of_ble_eq_true rfl) h (fun z257 m257 hG h => ?_)
    refine mm_if_ne (pc := 260) (tgt := 279) dX12_qGoesOn_260 (by decide) (fun hc => ?_) (fun hc => ?_)
    · have h := mm_iff hc h
      refine mm_aload_n (pc := 279) (j := 0) dX12_qGoesOn_279 rfl rfl ?_
      refine mm_kVV (pc := 280) [] dX12_qGoesOn_280 kX12_648 rfl sh_164 (Nat.le_of_ble_eq_true rfl) (Nat.le_of_ble_eq_true rfl) h (fun m280 hG h => ?_)
      refine mm_goto (pc := 283) (tgt := 247) dX12_qGoesOn_283 (by decide) ?_
      exact h
    · have h := mm_ift hc h
      refine mm_aload_n (pc := 263) (j := 0) dX12_qGoesOn_263 rfl rfl ?_
      refine mm_iconst (pc := 264) (x := 1) dX12_qGoesOn_264 rfl ?_
      refine mm_kVI (pc := 265) [.int 1] dX12_qGoesOn_265 kX12_675 rfl sh_164 (Nat.le_of_ble_eq_true rfl) (Nat.le_of_ble_eq_true rfl) h (fun z265 m265 hG h => ?_)
      refine mm_if_ne (pc := 268) (tgt := 279) dX12_qGoesOn_268 (by decide) (fun hc => ?_) (fun hc => ?_)
      · have h := mm_iff hc h
        refine mm_aload_n (pc := 279) (j := 0) dX12_qGoesOn_279 rfl rfl ?_
        refine mm_kVV (pc := 280) [] dX12_qGoesOn_280 kX12_648 rfl sh_164 (Nat.le_of_ble_eq_true rfl) (Nat.le_of_ble_eq_true rfl) h (fun m280 hG h => ?_)
        refine mm_goto (pc := 283) (tgt := 247) dX12_qGoesOn_283 (by decide) ?_
        exact h
      · have h := mm_ift hc h
        refine mm_aload_n (pc := 271) (j := 0) dX12_qGoesOn_271 rfl rfl ?_
        refine mm_iconst (pc := 272) (x := 2) dX12_qGoesOn_272 rfl ?_
        refine mm_kVI (pc := 273) [.int 2] dX12_qGoesOn_273 kX12_675 rfl sh_164 (Nat.le_of_ble_eq_true rfl) (Nat.le_of_ble_eq_true rfl) h (fun z273 m273 hG h => ?_)
        refine mm_if_eq (pc := 276) (tgt := 286) dX12_qGoesOn_276 (by decide) (fun hc => ?_) (fun hc => ?_)
        · have h := mm_ift hc h
          refine mm_aload_n (pc := 286) (j := 0) dX12_qGoesOn_286 rfl rfl ?_
          refine mm_getR (pc := 287) (ci := 12) (N := 116) (r := 240) dX12_qGoesOn_287 fX12_246 sh_164 rfl (g_164_106 hG) ?_
          refine mm_aload_n (pc := 290) (j := 0) dX12_qGoesOn_290 rfl rfl ?_
          refine mm_getI (pc := 291) (ci := 12) (N := 116) dX12_qGoesOn_291 fX12_357 sh_164 rfl ?_
          refine mm_iload_n (pc := 294) (j := 1) dX12_qGoesOn_294 rfl rfl ?_
          obtain ⟨hi295, h⟩ := h
          refine mm_iastore (pc := 295) (N := 1700) dX12_qGoesOn_295 sh_240 hi295 ?_
          refine mm_aload_n (pc := 296) (j := 0) dX12_qGoesOn_296 rfl rfl ?_
          refine mm_dup (pc := 297) dX12_qGoesOn_297 rfl ?_
          refine mm_getI (pc := 298) (ci := 12) (N := 116) dX12_qGoesOn_298 fX12_357 sh_164 rfl ?_
          refine mm_iconst (pc := 301) (x := 1) dX12_qGoesOn_301 rfl ?_
          refine mm_iadd (pc := 302) dX12_qGoesOn_302 ?_
          refine mm_putI (pc := 303) (ci := 12) (N := 116) dX12_qGoesOn_303 fX12_357 sh_164 (by decide +kernel) rfl rfl rfl ?_
          refine mm_iconst (pc := 306) (x := 1) dX12_qGoesOn_306 rfl ?_
          exact mm_zret (pc := 307) dX12_qGoesOn_307 rfl rfl (Nat.le_refl 0) (Nat.le_refl 0) ⟨_, rfl, rfl, hG, h⟩
        · have h := mm_iff hc h
          refine mm_aload_n (pc := 279) (j := 0) dX12_qGoesOn_279 rfl rfl ?_
          refine mm_kVV (pc := 280) [] dX12_qGoesOn_280 kX12_648 rfl sh_164 (Nat.le_of_ble_eq_true rfl) (Nat.le_of_ble_eq_true rfl) h (fun m280 hG h => ?_)
          refine mm_goto (pc := 283) (tgt := 247) dX12_qGoesOn_283 (by decide) ?_
          exact h
def jX12_qSums_15 (d : Nat) (M : mm_M) (K : mm_M → Prop) (y1 : Int32) (y2 : Int32) : Prop := mm_W mX12_qSums (d + 1) 0 0 15 [(0, .ref 164), (1, .int y1), (2, .int y2)] [] mm_SH M 0 0 (mm_PV K)
def jX12_qSums_53 (d : Nat) (M : mm_M) (K : mm_M → Prop) (y1 : Int32) : Prop := mm_W mX12_qSums (d + 1) 0 0 53 [(0, .ref 164), (1, .int y1)] [] mm_SH M 0 0 (mm_PV K)
set_option maxRecDepth 100000 in
set_option maxHeartbeats 4000000 in
theorem rX12_qSums {d : Nat} {M : mm_M} {K : mm_M → Prop} (hG : mm_G M.2.2) (h : jX12_qSums_15 d (mm_uI M 164 109 (M.1 164 107)) K (M.1 164 109) 1) : mm_CV mX12_qSums (d + 1) [.ref 164] M K := by
  show mm_W mX12_qSums (d + 1) 0 0 0 [(0, .ref 164)] [] mm_SH M 0 0 (mm_PV K)
  refine mm_aload_n (pc := 0) (j := 0) dX12_qSums_0 rfl rfl ?_
  refine mm_getI (pc := 1) (ci := 12) (N := 116) dX12_qSums_1 fX12_363 sh_164 rfl ?_
  refine mm_istore_n (pc := 4) (lv' := [(1, .int (M.1 164 109)), (0, .ref 164)]) dX12_qSums_4 rfl (by decide) rfl ?_
  refine mm_aload_n (pc := 5) (j := 1) dX12_qSums_5 rfl rfl ?_
  refine mm_aload_n (pc := 6) (j := 1) dX12_qSums_6 rfl rfl ?_
  refine mm_getI (pc := 7) (ci := 12) (N := 116) dX12_qSums_7 fX12_357 sh_164 rfl ?_
  refine mm_putI (pc := 10) (ci := 12) (N := 116) dX12_qSums_10 fX12_363 sh_164 (by decide +kernel) rfl rfl rfl ?_
  refine mm_iconst (pc := 13) (x := 1) dX12_qSums_13 rfl ?_
  refine mm_istore_n (pc := 14) (lv' := [(2, .int 1), (1, .int (M.1 164 109)), (0, .ref 164)]) dX12_qSums_14 rfl (by decide) rfl ?_
  exact mm_sub [2, 1, 0] rfl h
set_option maxRecDepth 100000 in
set_option maxHeartbeats 4000000 in
theorem lX12_qSums_15 {d : Nat} {M : mm_M} {K : mm_M → Prop} {y1 : Int32} {y2 : Int32} (hG : mm_G M.2.2) (h : if y2 = 0 then (jX12_qSums_53 d M K y1) else (if (M.1 164 5) = 0 then (mm_CV mX12_qPartTold d [.ref 164] M (fun m27 => if (m27.1 164 5) = 0 then (mm_CI mX12_qGoesOn d [.ref 164] m27 (fun z38 m38 => if z38 = 0 then (jX12_qSums_15 d m38 K y1 0) else (jX12_qSums_15 d m38 K y1 1))) else (jX12_qSums_15 d m27 K y1 0))) else (jX12_qSums_53 d M K y1))) : jX12_qSums_15 d  M K y1 y2 := by
  unfold jX12_qSums_15
  refine mm_iload_n (pc := 15) (j := 2) dX12_qSums_15 rfl rfl ?_
  refine mm_if_eq (pc := 16) (tgt := 53) dX12_qSums_16 (by decide) (fun hc => ?_) (fun hc => ?_)
  · have h := mm_ift hc h
    exact mm_sub [0, 1] rfl h
  · have h := mm_iff hc h
    refine mm_aload_n (pc := 19) (j := 0) dX12_qSums_19 rfl rfl ?_
    refine mm_getI (pc := 20) (ci := 12) (N := 116) dX12_qSums_20 fX12_260 sh_164 rfl ?_
    refine mm_if_ne (pc := 23) (tgt := 53) dX12_qSums_23 (by decide) (fun hc => ?_) (fun hc => ?_)
    · have h := mm_iff hc h
      exact mm_sub [0, 1] rfl h
    · have h := mm_ift hc h
      refine mm_aload_n (pc := 26) (j := 0) dX12_qSums_26 rfl rfl ?_
      refine mm_kVV (pc := 27) [] dX12_qSums_27 kX12_678 rfl sh_164 (Nat.le_of_ble_eq_true rfl) (Nat.le_of_ble_eq_true rfl) h (fun m27 hG h => ?_)
      refine mm_aload_n (pc := 30) (j := 0) dX12_qSums_30 rfl rfl ?_
      refine mm_getI (pc := 31) (ci := 12) (N := 116) dX12_qSums_31 fX12_260 sh_164 rfl ?_
      refine mm_if_ne (pc := 34) (tgt := 48) dX12_qSums_34 (by decide) (fun hc => ?_) (fun hc => ?_)
      · have h := mm_iff hc h
        refine mm_iconst (pc := 48) (x := 0) dX12_qSums_48 rfl ?_
        refine mm_istore_n (pc := 49) (lv' := [(2, .int 0), (0, .ref 164), (1, .int y1)]) dX12_qSums_49 rfl (by decide) rfl ?_
        refine mm_goto (pc := 50) (tgt := 15) dX12_qSums_50 (by decide) ?_
        exact mm_sub [1, 2, 0] rfl h
      · have h := mm_ift hc h
        refine mm_aload_n (pc := 37) (j := 0) dX12_qSums_37 rfl rfl ?_
        refine mm_kVI (pc := 38) [] dX12_qSums_38 kX12_681 rfl sh_164 (Nat.le_of_ble_eq_true rfl) (Nat.le_of_ble_eq_true rfl) h (fun z38 m38 hG h => ?_)
        refine mm_if_eq (pc := 41) (tgt := 48) dX12_qSums_41 (by decide) (fun hc => ?_) (fun hc => ?_)
        · have h := mm_ift hc h
          refine mm_iconst (pc := 48) (x := 0) dX12_qSums_48 rfl ?_
          refine mm_istore_n (pc := 49) (lv' := [(2, .int 0), (0, .ref 164), (1, .int y1)]) dX12_qSums_49 rfl (by decide) rfl ?_
          refine mm_goto (pc := 50) (tgt := 15) dX12_qSums_50 (by decide) ?_
          exact mm_sub [1, 2, 0] rfl h
        · have h := mm_iff hc h
          refine mm_iconst (pc := 44) (x := 1) dX12_qSums_44 rfl ?_
          refine mm_goto (pc := 45) (tgt := 49) dX12_qSums_45 (by decide) ?_
          refine mm_istore_n (pc := 49) (lv' := [(2, .int 1), (0, .ref 164), (1, .int y1)]) dX12_qSums_49 rfl (by decide) rfl ?_
          refine mm_goto (pc := 50) (tgt := 15) dX12_qSums_50 (by decide) ?_
          exact mm_sub [1, 2, 0] rfl h
set_option maxRecDepth 100000 in
set_option maxHeartbeats 4000000 in
theorem lX12_qSums_53 {d : Nat} {M : mm_M} {K : mm_M → Prop} {y1 : Int32} (hG : mm_G M.2.2) (h : if (M.1 164 5) = 0 then (if (M.1 164 107) ≤ (M.1 164 109) then (K (mm_uI M 164 109 y1)) else (mm_CV mX12_qDrops d [.ref 164] M (fun m72 => jX12_qSums_53 d m72 K y1))) else (K (mm_uI M 164 109 y1))) : jX12_qSums_53 d  M K y1 := by
  unfold jX12_qSums_53
  refine mm_aload_n (pc := 53) (j := 0) dX12_qSums_53 rfl rfl ?_
  refine mm_getI (pc := 54) (ci := 12) (N := 116) dX12_qSums_54 fX12_260 sh_164 rfl ?_
  refine mm_if_ne (pc := 57) (tgt := 78) dX12_qSums_57 (by decide) (fun hc => ?_) (fun hc => ?_)
  · have h := mm_iff hc h
    refine mm_aload_n (pc := 78) (j := 0) dX12_qSums_78 rfl rfl ?_
    refine mm_iload_n (pc := 79) (j := 1) dX12_qSums_79 rfl rfl ?_
    refine mm_putI (pc := 80) (ci := 12) (N := 116) dX12_qSums_80 fX12_363 sh_164 (by decide +kernel) rfl rfl rfl ?_
    exact mm_vret (pc := 83) dX12_qSums_83 rfl (Nat.le_refl 0) (Nat.le_refl 0) ⟨rfl, rfl, hG, h⟩
  · have h := mm_ift hc h
    refine mm_aload_n (pc := 60) (j := 0) dX12_qSums_60 rfl rfl ?_
    refine mm_getI (pc := 61) (ci := 12) (N := 116) dX12_qSums_61 fX12_357 sh_164 rfl ?_
    refine mm_aload_n (pc := 64) (j := 0) dX12_qSums_64 rfl rfl ?_
    refine mm_getI (pc := 65) (ci := 12) (N := 116) dX12_qSums_65 fX12_363 sh_164 rfl ?_
    refine mm_icmp_le (pc := 68) (tgt := 78) dX12_qSums_68 (by decide) (fun hc => ?_) (fun hc => ?_)
    · have h := mm_ift hc h
      refine mm_aload_n (pc := 78) (j := 0) dX12_qSums_78 rfl rfl ?_
      refine mm_iload_n (pc := 79) (j := 1) dX12_qSums_79 rfl rfl ?_
      refine mm_putI (pc := 80) (ci := 12) (N := 116) dX12_qSums_80 fX12_363 sh_164 (by decide +kernel) rfl rfl rfl ?_
      exact mm_vret (pc := 83) dX12_qSums_83 rfl (Nat.le_refl 0) (Nat.le_refl 0) ⟨rfl, rfl, hG, h⟩
    · have h := mm_iff hc h
      refine mm_aload_n (pc := 71) (j := 0) dX12_qSums_71 rfl rfl ?_
      refine mm_kVV (pc := 72) [] dX12_qSums_72 kX12_648 rfl sh_164 (Nat.le_of_ble_eq_true rfl) (Nat.le_of_ble_eq_true rfl) h (fun m72 hG h => ?_)
      refine mm_goto (pc := 75) (tgt := 53) dX12_qSums_75 (by decide) ?_
      exact h
def jX12_qFact_63 (d : Nat) (M : mm_M) (K : mm_M → Prop) (y1 : Int32) : Prop := mm_W mX12_qFact (d + 1) 0 0 63 [(0, .ref 164), (1, .int y1)] [] mm_SH M 0 0 (mm_PV K)
set_option maxRecDepth 100000 in
set_option maxHeartbeats 4000000 in
theorem rX12_qFact {d : Nat} {M : mm_M} {K : mm_M → Prop} (hG : mm_G M.2.2) (h : mm_CI mX12_takes d [.ref 164, .ref 226] M (fun z5 m5 => if z5 = 0 then (mm_CV mX12_qSums d [.ref 164] m5 (fun m19 => if (m19.1 164 5) = 0 then (mm_CI mX12_look d [.ref 164] m19 (fun z31 m31 => if z31 = 60 then (jX12_qFact_63 d m31 K z31) else (if z31 = 62 then (jX12_qFact_63 d m31 K z31) else (if z31 = 61 then (jX12_qFact_63 d m31 K z31) else (mm_CV mX12_fail d [.ref 164, .int 1, .int (m31.1 164 2)] m31 (fun m59 => K m59)))))) else (K m19))) else (mm_CV mX12_qCode d [.ref 164, .int 13] m5 (fun m14 => K m14)))) : mm_CV mX12_qFact (d + 1) [.ref 164] M K := by
  show mm_W mX12_qFact (d + 1) 0 0 0 [(0, .ref 164)] [] mm_SH M 0 0 (mm_PV K)
  refine mm_aload_n (pc := 0) (j := 0) dX12_qFact_0 rfl rfl ?_
  refine mm_aload_n (pc := 1) (j := 0) dX12_qFact_1 rfl rfl ?_
  refine mm_getR (pc := 2) (ci := 12) (N := 116) (r := 226) dX12_qFact_2 fX12_204 sh_164 rfl (g_164_91 hG) ?_
  refine mm_kVI (pc := 5) [.ref 226] dX12_qFact_5 kX12_287 rfl sh_164 (Nat.le_of_ble_eq_true rfl) (Nat.le_of_ble_eq_true rfl) h (fun z5 m5 hG h => ?_)
  refine mm_if_eq (pc := 8) (tgt := 18) dX12_qFact_8 (by decide) (fun hc => ?_) (fun hc => ?_)
  · have h := mm_ift hc h
    refine mm_aload_n (pc := 18) (j := 0) dX12_qFact_18 rfl rfl ?_
    refine mm_kVV (pc := 19) [] dX12_qFact_19 kX12_369 rfl sh_164 (Nat.le_of_ble_eq_true rfl) (Nat.le_of_ble_eq_true rfl) h (fun m19 hG h => ?_)
    refine mm_aload_n (pc := 22) (j := 0) dX12_qFact_22 rfl rfl ?_
    refine mm_getI (pc := 23) (ci := 12) (N := 116) dX12_qFact_23 fX12_260 sh_164 rfl ?_
    refine mm_if_eq (pc := 26) (tgt := 30) dX12_qFact_26 (by decide) (fun hc => ?_) (fun hc => ?_)
    · have h := mm_ift hc h
      refine mm_aload_n (pc := 30) (j := 0) dX12_qFact_30 rfl rfl ?_
      refine mm_kVI (pc := 31) [] dX12_qFact_31 kX12_272 rfl sh_164 (Nat.le_of_ble_eq_true rfl) (Nat.le_of_ble_eq_true rfl) h (fun z31 m31 hG h => ?_)
      refine mm_istore_n (pc := 34) (lv' := [(1, .int z31), (0, .ref 164)]) dX12_qFact_34 rfl (by decide) rfl ?_
      refine mm_iload_n (pc := 35) (j := 0) dX12_qFact_35 rfl rfl ?_
      refine mm_bipush (pc := 36) (x := 60) dX12_qFact_36 rfl ?_
      refine mm_icmp_eq (pc := 38) (tgt := 63) dX12_qFact_38 (by decide) (fun hc => ?_) (fun hc => ?_)
      · have h := mm_ift hc h
        exact mm_sub [1, 0] rfl h
      · have h := mm_iff hc h
        refine mm_iload_n (pc := 41) (j := 0) dX12_qFact_41 rfl rfl ?_
        refine mm_bipush (pc := 42) (x := 62) dX12_qFact_42 rfl ?_
        refine mm_icmp_eq (pc := 44) (tgt := 63) dX12_qFact_44 (by decide) (fun hc => ?_) (fun hc => ?_)
        · have h := mm_ift hc h
          exact mm_sub [1, 0] rfl h
        · have h := mm_iff hc h
          refine mm_iload_n (pc := 47) (j := 0) dX12_qFact_47 rfl rfl ?_
          refine mm_bipush (pc := 48) (x := 61) dX12_qFact_48 rfl ?_
          refine mm_icmp_eq (pc := 50) (tgt := 63) dX12_qFact_50 (by decide) (fun hc => ?_) (fun hc => ?_)
          · have h := mm_ift hc h
            exact mm_sub [1, 0] rfl h
          · have h := mm_iff hc h
            refine mm_aload_n (pc := 53) (j := 1) dX12_qFact_53 rfl rfl ?_
            refine mm_iconst (pc := 54) (x := 1) dX12_qFact_54 rfl ?_
            refine mm_aload_n (pc := 55) (j := 1) dX12_qFact_55 rfl rfl ?_
            refine mm_getI (pc := 56) (ci := 12) (N := 116) dX12_qFact_56 fX12_266 sh_164 rfl ?_
            refine mm_kVV (pc := 59) [.int 1, .int (m31.1 164 2)] dX12_qFact_59 kX12_290 rfl sh_164 (Nat.le_of_ble_eq_true rfl) (Nat.le_of_ble_eq_true rfl) h (fun m59 hG h => ?_)
            exact mm_vret (pc := 62) dX12_qFact_62 rfl (Nat.le_refl 0) (Nat.le_refl 0) ⟨rfl, rfl, hG, h⟩
    · have h := mm_iff hc h
      exact mm_vret (pc := 29) dX12_qFact_29 rfl (Nat.le_refl 0) (Nat.le_refl 0) ⟨rfl, rfl, hG, h⟩
  · have h := mm_iff hc h
    refine mm_aload_n (pc := 11) (j := 0) dX12_qFact_11 rfl rfl ?_
    refine mm_bipush (pc := 12) (x := 13) dX12_qFact_12 rfl ?_
    refine mm_kVV (pc := 14) [.int 13] dX12_qFact_14 kX12_642 rfl sh_164 (Nat.le_of_ble_eq_true rfl) (Nat.le_of_ble_eq_true rfl) h (fun m14 hG h => ?_)
    exact mm_vret (pc := 17) dX12_qFact_17 rfl (Nat.le_refl 0) (Nat.le_refl 0) ⟨rfl, rfl, hG, h⟩
set_option maxRecDepth 100000 in
set_option maxHeartbeats 4000000 in
theorem lX12_qFact_63 {d : Nat} {M : mm_M} {K : mm_M → Prop} {y1 : Int32} (hG : mm_G M.2.2) (h : mm_CV mX12_qSums d [.ref 164] (mm_uI M 164 2 ((M.1 164 2) + 1)) (fun m74 => if y1 = 60 then (mm_CV mX12_qCode d [.ref 164, .int 7] m74 (fun m102 => K m102)) else (if y1 = 62 then (mm_CV mX12_qCode d [.ref 164, .int 8] m74 (fun m102 => K m102)) else (mm_CV mX12_qCode d [.ref 164, .int 9] m74 (fun m102 => K m102))))) : jX12_qFact_63 d  M K y1 := by
  unfold jX12_qFact_63
  refine mm_aload_n (pc := 63) (j := 0) dX12_qFact_63 rfl rfl ?_
  refine mm_dup (pc := 64) dX12_qFact_64 rfl ?_
  refine mm_getI (pc := 65) (ci := 12) (N := 116) dX12_qFact_65 fX12_266 sh_164 rfl ?_
  refine mm_iconst (pc := 68) (x := 1) dX12_qFact_68 rfl ?_
  refine mm_iadd (pc := 69) dX12_qFact_69 ?_
  refine mm_putI (pc := 70) (ci := 12) (N := 116) dX12_qFact_70 fX12_266 sh_164 (by decide +kernel) rfl rfl rfl ?_
  refine mm_aload_n (pc := 73) (j := 0) dX12_qFact_73 rfl rfl ?_
  refine mm_kVV (pc := 74) [] dX12_qFact_74 kX12_369 rfl sh_164 (Nat.le_of_ble_eq_true rfl) (Nat.le_of_ble_eq_true rfl) h (fun m74 hG h => ?_)
  refine mm_aload_n (pc := 77) (j := 0) dX12_qFact_77 rfl rfl ?_
  refine mm_iload_n (pc := 78) (j := 1) dX12_qFact_78 rfl rfl ?_
  refine mm_bipush (pc := 79) (x := 60) dX12_qFact_79 rfl ?_
  refine mm_icmp_ne (pc := 81) (tgt := 89) dX12_qFact_81 (by decide) (fun hc => ?_) (fun hc => ?_)
  · have h := mm_iff hc h
    refine mm_iload_n (pc := 89) (j := 1) dX12_qFact_89 rfl rfl ?_
    refine mm_bipush (pc := 90) (x := 62) dX12_qFact_90 rfl ?_
    refine mm_icmp_ne (pc := 92) (tgt := 100) dX12_qFact_92 (by decide) (fun hc => ?_) (fun hc => ?_)
    · have h := mm_iff hc h
      refine mm_bipush (pc := 100) (x := 9) dX12_qFact_100 rfl ?_
      refine mm_kVV (pc := 102) [.int 9] dX12_qFact_102 kX12_642 rfl sh_164 (Nat.le_of_ble_eq_true rfl) (Nat.le_of_ble_eq_true rfl) h (fun m102 hG h => ?_)
      exact mm_vret (pc := 105) dX12_qFact_105 rfl (Nat.le_refl 0) (Nat.le_refl 0) ⟨rfl, rfl, hG, h⟩
    · have h := mm_ift hc h
      refine mm_bipush (pc := 95) (x := 8) dX12_qFact_95 rfl ?_
      refine mm_goto (pc := 97) (tgt := 102) dX12_qFact_97 (by decide) ?_
      refine mm_kVV (pc := 102) [.int 8] dX12_qFact_102 kX12_642 rfl sh_164 (Nat.le_of_ble_eq_true rfl) (Nat.le_of_ble_eq_true rfl) h (fun m102 hG h => ?_)
      exact mm_vret (pc := 105) dX12_qFact_105 rfl (Nat.le_refl 0) (Nat.le_refl 0) ⟨rfl, rfl, hG, h⟩
  · have h := mm_ift hc h
    refine mm_bipush (pc := 84) (x := 7) dX12_qFact_84 rfl ?_
    refine mm_goto (pc := 86) (tgt := 102) dX12_qFact_86 (by decide) ?_
    refine mm_kVV (pc := 102) [.int 7] dX12_qFact_102 kX12_642 rfl sh_164 (Nat.le_of_ble_eq_true rfl) (Nat.le_of_ble_eq_true rfl) h (fun m102 hG h => ?_)
    exact mm_vret (pc := 105) dX12_qFact_105 rfl (Nat.le_refl 0) (Nat.le_refl 0) ⟨rfl, rfl, hG, h⟩
def jX12_qHasSquare_2 (d : Nat) (M : mm_M) (K : Int32 → mm_M → Prop) (y1 : Int32) : Prop := mm_W mX12_qHasSquare d 0 0 2 [(0, .ref 164), (1, .int y1)] [] mm_SH M 0 0 (mm_PI K)
set_option maxRecDepth 100000 in
set_option maxHeartbeats 4000000 in
theorem rX12_qHasSquare {d : Nat} {M : mm_M} {K : Int32 → mm_M → Prop} (hG : mm_G M.2.2) (h : jX12_qHasSquare_2 d M K 0) : mm_CI mX12_qHasSquare d [.ref 164] M K := by
  show mm_W mX12_qHasSquare d 0 0 0 [(0, .ref 164)] [] mm_SH M 0 0 (mm_PI K)
  refine mm_iconst (pc := 0) (x := 0) dX12_qHasSquare_0 rfl ?_
  refine mm_istore_n (pc := 1) (lv' := [(1, .int 0), (0, .ref 164)]) dX12_qHasSquare_1 rfl (by decide) rfl ?_
  exact mm_sub [1, 0] rfl h
set_option maxRecDepth 100000 in
set_option maxHeartbeats 4000000 in
theorem lX12_qHasSquare_2 {d : Nat} {M : mm_M} {K : Int32 → mm_M → Prop} {y1 : Int32} (hG : mm_G M.2.2) (h : if (M.1 164 107) ≤ y1 then (K 0 M) else (vp_in y1 1700 ∧ if (M.1 240 y1.toNatClampNeg) = 25 then (K 1 M) else (jX12_qHasSquare_2 d M K (y1 + 1)))) : jX12_qHasSquare_2 d  M K y1 := by
  unfold jX12_qHasSquare_2
  refine mm_iload_n (pc := 2) (j := 1) dX12_qHasSquare_2 rfl rfl ?_
  refine mm_aload_n (pc := 3) (j := 0) dX12_qHasSquare_3 rfl rfl ?_
  refine mm_getI (pc := 4) (ci := 12) (N := 116) dX12_qHasSquare_4 fX12_357 sh_164 rfl ?_
  refine mm_icmp_ge (pc := 7) (tgt := 29) dX12_qHasSquare_7 (by decide) (fun hc => ?_) (fun hc => ?_)
  · have h := mm_ift hc h
    refine mm_iconst (pc := 29) (x := 0) dX12_qHasSquare_29 rfl ?_
    exact mm_zret (pc := 30) dX12_qHasSquare_30 rfl rfl (Nat.le_refl 0) (Nat.le_refl 0) ⟨_, rfl, rfl, hG, h⟩
  · have h := mm_iff hc h
    refine mm_aload_n (pc := 10) (j := 0) dX12_qHasSquare_10 rfl rfl ?_
    refine mm_getR (pc := 11) (ci := 12) (N := 116) (r := 240) dX12_qHasSquare_11 fX12_246 sh_164 rfl (g_164_106 hG) ?_
    refine mm_iload_n (pc := 14) (j := 1) dX12_qHasSquare_14 rfl rfl ?_
    obtain ⟨hi15, h⟩ := h
    refine mm_iaload (pc := 15) (N := 1700) dX12_qHasSquare_15 sh_240 hi15 ?_
    refine mm_bipush (pc := 16) (x := 25) dX12_qHasSquare_16 rfl ?_
    refine mm_icmp_ne (pc := 18) (tgt := 23) dX12_qHasSquare_18 (by decide) (fun hc => ?_) (fun hc => ?_)
    · have h := mm_iff hc h
      refine mm_iinc (pc := 23) (j := 1) (v := y1 + 1) (lv' := [(1, .int (y1 + 1)), (0, .ref 164)]) dX12_qHasSquare_23 rfl rfl (by decide) rfl ?_
      refine mm_goto (pc := 26) (tgt := 2) dX12_qHasSquare_26 (by decide) ?_
      exact mm_sub [1, 0] rfl h
    · have h := mm_ift hc h
      refine mm_iconst (pc := 21) (x := 1) dX12_qHasSquare_21 rfl ?_
      exact mm_zret (pc := 22) dX12_qHasSquare_22 rfl rfl (Nat.le_refl 0) (Nat.le_refl 0) ⟨_, rfl, rfl, hG, h⟩
def jX12_qDropsNots_0 (d : Nat) (M : mm_M) (K : mm_M → Prop) : Prop := mm_W mX12_qDropsNots (d + 1) 0 0 0 [(0, .ref 164)] [] mm_SH M 0 0 (mm_PV K)
set_option maxRecDepth 100000 in
set_option maxHeartbeats 4000000 in
theorem rX12_qDropsNots {d : Nat} {M : mm_M} {K : mm_M → Prop} (hG : mm_G M.2.2) (h : if (M.1 164 5) = 0 then (mm_CI mX12_qIsOn d [.ref 164, .int 12] M (fun z10 m10 => if z10 = 0 then (K m10) else (mm_CV mX12_qDrops d [.ref 164] (mm_uI m10 164 108 ((m10.1 164 108) - 1)) (fun m27 => jX12_qDropsNots_0 d m27 K)))) else (K M)) : mm_CV mX12_qDropsNots (d + 1) [.ref 164] M K := by
  show mm_W mX12_qDropsNots (d + 1) 0 0 0 [(0, .ref 164)] [] mm_SH M 0 0 (mm_PV K)
  refine mm_aload_n (pc := 0) (j := 0) dX12_qDropsNots_0 rfl rfl ?_
  refine mm_getI (pc := 1) (ci := 12) (N := 116) dX12_qDropsNots_1 fX12_260 sh_164 rfl ?_
  refine mm_if_ne (pc := 4) (tgt := 33) dX12_qDropsNots_4 (by decide) (fun hc => ?_) (fun hc => ?_)
  · have h := mm_iff hc h
    exact mm_vret (pc := 33) dX12_qDropsNots_33 rfl (Nat.le_refl 0) (Nat.le_refl 0) ⟨rfl, rfl, hG, h⟩
  · have h := mm_ift hc h
    refine mm_aload_n (pc := 7) (j := 0) dX12_qDropsNots_7 rfl rfl ?_
    refine mm_bipush (pc := 8) (x := 12) dX12_qDropsNots_8 rfl ?_
    refine mm_kVI (pc := 10) [.int 12] dX12_qDropsNots_10 kX12_675 rfl sh_164 (Nat.le_of_ble_eq_true rfl) (Nat.le_of_ble_eq_true rfl) h (fun z10 m10 hG h => ?_)
    refine mm_if_eq (pc := 13) (tgt := 33) dX12_qDropsNots_13 (by decide) (fun hc => ?_) (fun hc => ?_)
    · have h := mm_ift hc h
      exact mm_vret (pc := 33) dX12_qDropsNots_33 rfl (Nat.le_refl 0) (Nat.le_refl 0) ⟨rfl, rfl, hG, h⟩
    · have h := mm_iff hc h
      refine mm_aload_n (pc := 16) (j := 0) dX12_qDropsNots_16 rfl rfl ?_
      refine mm_dup (pc := 17) dX12_qDropsNots_17 rfl ?_
      refine mm_getI (pc := 18) (ci := 12) (N := 116) dX12_qDropsNots_18 fX12_360 sh_164 rfl ?_
      refine mm_iconst (pc := 21) (x := 1) dX12_qDropsNots_21 rfl ?_
      refine mm_isub (pc := 22) dX12_qDropsNots_22 ?_
      refine mm_putI (pc := 23) (ci := 12) (N := 116) dX12_qDropsNots_23 fX12_360 sh_164 (by decide +kernel) rfl rfl rfl ?_
      refine mm_aload_n (pc := 26) (j := 0) dX12_qDropsNots_26 rfl rfl ?_
      refine mm_kVV (pc := 27) [] dX12_qDropsNots_27 kX12_648 rfl sh_164 (Nat.le_of_ble_eq_true rfl) (Nat.le_of_ble_eq_true rfl) h (fun m27 hG h => ?_)
      refine mm_goto (pc := 30) (tgt := 0) dX12_qDropsNots_30 (by decide) ?_
      exact h
set_option maxRecDepth 100000 in
set_option maxHeartbeats 4000000 in
theorem lX12_qDropsNots_0 {d : Nat} {M : mm_M} {K : mm_M → Prop} (hG : mm_G M.2.2) (h : if (M.1 164 5) = 0 then (mm_CI mX12_qIsOn d [.ref 164, .int 12] M (fun z10 m10 => if z10 = 0 then (K m10) else (mm_CV mX12_qDrops d [.ref 164] (mm_uI m10 164 108 ((m10.1 164 108) - 1)) (fun m27 => jX12_qDropsNots_0 d m27 K)))) else (K M)) : jX12_qDropsNots_0 d  M K  := by
  unfold jX12_qDropsNots_0
  refine mm_aload_n (pc := 0) (j := 0) dX12_qDropsNots_0 rfl rfl ?_
  refine mm_getI (pc := 1) (ci := 12) (N := 116) dX12_qDropsNots_1 fX12_260 sh_164 rfl ?_
  refine mm_if_ne (pc := 4) (tgt := 33) dX12_qDropsNots_4 (by decide) (fun hc => ?_) (fun hc => ?_)
  · have h := mm_iff hc h
    exact mm_vret (pc := 33) dX12_qDropsNots_33 rfl (Nat.le_refl 0) (Nat.le_refl 0) ⟨rfl, rfl, hG, h⟩
  · have h := mm_ift hc h
    refine mm_aload_n (pc := 7) (j := 0) dX12_qDropsNots_7 rfl rfl ?_
    refine mm_bipush (pc := 8) (x := 12) dX12_qDropsNots_8 rfl ?_
    refine mm_kVI (pc := 10) [.int 12] dX12_qDropsNots_10 kX12_675 rfl sh_164 (Nat.le_of_ble_eq_true rfl) (Nat.le_of_ble_eq_true rfl) h (fun z10 m10 hG h => ?_)
    refine mm_if_eq (pc := 13) (tgt := 33) dX12_qDropsNots_13 (by decide) (fun hc => ?_) (fun hc => ?_)
    · have h := mm_ift hc h
      exact mm_vret (pc := 33) dX12_qDropsNots_33 rfl (Nat.le_refl 0) (Nat.le_refl 0) ⟨rfl, rfl, hG, h⟩
    · have h := mm_iff hc h
      refine mm_aload_n (pc := 16) (j := 0) dX12_qDropsNots_16 rfl rfl ?_
      refine mm_dup (pc := 17) dX12_qDropsNots_17 rfl ?_
      refine mm_getI (pc := 18) (ci := 12) (N := 116) dX12_qDropsNots_18 fX12_360 sh_164 rfl ?_
      refine mm_iconst (pc := 21) (x := 1) dX12_qDropsNots_21 rfl ?_
      refine mm_isub (pc := 22) dX12_qDropsNots_22 ?_
      refine mm_putI (pc := 23) (ci := 12) (N := 116) dX12_qDropsNots_23 fX12_360 sh_164 (by decide +kernel) rfl rfl rfl ?_
      refine mm_aload_n (pc := 26) (j := 0) dX12_qDropsNots_26 rfl rfl ?_
      refine mm_kVV (pc := 27) [] dX12_qDropsNots_27 kX12_648 rfl sh_164 (Nat.le_of_ble_eq_true rfl) (Nat.le_of_ble_eq_true rfl) h (fun m27 hG h => ?_)
      refine mm_goto (pc := 30) (tgt := 0) dX12_qDropsNots_30 (by decide) ?_
      exact h
def jX12_qTest_2 (d : Nat) (M : mm_M) (K : mm_M → Prop) (y1 : Int32) : Prop := mm_W mX12_qTest (d + 1) 0 0 2 [(0, .ref 164), (1, .int y1)] [] mm_SH M 0 0 (mm_PV K)
def jX12_qTest_110 (d : Nat) (M : mm_M) (K : mm_M → Prop) : Prop := mm_W mX12_qTest (d + 1) 0 0 110 [(0, .ref 164)] [] mm_SH M 0 0 (mm_PV K)
set_option maxRecDepth 100000 in
set_option maxHeartbeats 4000000 in
theorem rX12_qTest {d : Nat} {M : mm_M} {K : mm_M → Prop} (hG : mm_G M.2.2) (h : jX12_qTest_2 d M K 1) : mm_CV mX12_qTest (d + 1) [.ref 164] M K := by
  show mm_W mX12_qTest (d + 1) 0 0 0 [(0, .ref 164)] [] mm_SH M 0 0 (mm_PV K)
  refine mm_iconst (pc := 0) (x := 1) dX12_qTest_0 rfl ?_
  refine mm_istore_n (pc := 1) (lv' := [(1, .int 1), (0, .ref 164)]) dX12_qTest_1 rfl (by decide) rfl ?_
  exact mm_sub [1, 0] rfl h
set_option maxRecDepth 100000 in
set_option maxHeartbeats 4000000 in
theorem lX12_qTest_2 {d : Nat} {M : mm_M} {K : mm_M → Prop} {y1 : Int32} (hG : mm_G M.2.2) (h : if y1 = 0 then (jX12_qTest_110 d M K) else (if (M.1 164 5) = 0 then (mm_CI mX12_look d [.ref 164] M (fun z14 m14 => if z14 = 91 then (mm_CV mX12_qOpens d [.ref 164, .int 25, .int (m14.1 164 2)] m14 (fun m31 => jX12_qTest_2 d (mm_uI m31 164 2 ((m31.1 164 2) + 1)) K y1)) else (mm_CI mX12_isHere d [.ref 164, .ref 223] m14 (fun z52 m52 => if z52 = 0 then (mm_CV mX12_qFact d [.ref 164] m52 (fun m80 => mm_CV mX12_qDropsNots d [.ref 164] m80 (fun m84 => if (m84.1 164 5) = 0 then (mm_CI mX12_qGoesOnTest d [.ref 164] m84 (fun z95 m95 => if z95 = 0 then (jX12_qTest_2 d m95 K 0) else (jX12_qTest_2 d m95 K 1))) else (jX12_qTest_2 d m84 K 0)))) else (mm_CV mX12_qOpens d [.ref 164, .int 12, .int (m52.1 164 2)] m52 (fun m65 => mm_CV mX12_asks d [.ref 164, .ref 223] m65 (fun m73 => jX12_qTest_2 d m73 K y1))))))) else (jX12_qTest_110 d M K))) : jX12_qTest_2 d  M K y1 := by
  unfold jX12_qTest_2
  refine mm_iload_n (pc := 2) (j := 1) dX12_qTest_2 rfl rfl ?_
  refine mm_if_eq (pc := 3) (tgt := 110) dX12_qTest_3 (by decide) (fun hc => ?_) (fun hc => ?_)
  · have h := mm_ift hc h
    exact mm_sub [0] rfl h
  · have h := mm_iff hc h
    refine mm_aload_n (pc := 6) (j := 0) dX12_qTest_6 rfl rfl ?_
    refine mm_getI (pc := 7) (ci := 12) (N := 116) dX12_qTest_7 fX12_260 sh_164 rfl ?_
    refine mm_if_ne (pc := 10) (tgt := 110) dX12_qTest_10 (by decide) (fun hc => ?_) (fun hc => ?_)
    · have h := mm_iff hc h
      exact mm_sub [0] rfl h
    · have h := mm_ift hc h
      refine mm_aload_n (pc := 13) (j := 0) dX12_qTest_13 rfl rfl ?_
      refine mm_kVI (pc := 14) [] dX12_qTest_14 kX12_272 rfl sh_164 (Nat.le_of_ble_eq_true rfl) (Nat.le_of_ble_eq_true rfl) h (fun z14 m14 hG h => ?_)
      refine mm_istore_n (pc := 17) (lv' := [(2, .int z14), (0, .ref 164), (1, .int y1)]) dX12_qTest_17 rfl (by decide) rfl ?_
      refine mm_iload_n (pc := 18) (j := 0) dX12_qTest_18 rfl rfl ?_
      refine mm_bipush (pc := 19) (x := 91) dX12_qTest_19 rfl ?_
      refine mm_icmp_ne (pc := 21) (tgt := 47) dX12_qTest_21 (by decide) (fun hc => ?_) (fun hc => ?_)
      · have h := mm_iff hc h
        refine mm_aload_n (pc := 47) (j := 1) dX12_qTest_47 rfl rfl ?_
        refine mm_aload_n (pc := 48) (j := 1) dX12_qTest_48 rfl rfl ?_
        refine mm_getR (pc := 49) (ci := 12) (N := 116) (r := 223) dX12_qTest_49 fX12_195 sh_164 rfl (g_164_88 hG) ?_
        refine mm_kVI (pc := 52) [.ref 223] dX12_qTest_52 kX12_283 rfl sh_164 (Nat.le_of_ble_eq_true rfl) (Nat.le_of_ble_eq_true rfl) h (fun z52 m52 hG h => ?_)
        refine mm_if_eq (pc := 55) (tgt := 79) dX12_qTest_55 (by decide) (fun hc => ?_) (fun hc => ?_)
        · have h := mm_ift hc h
          refine mm_aload_n (pc := 79) (j := 1) dX12_qTest_79 rfl rfl ?_
          refine mm_kVV (pc := 80) [] dX12_qTest_80 kX12_684 rfl sh_164 (Nat.le_of_ble_eq_true rfl) (Nat.le_of_ble_eq_true rfl) h (fun m80 hG h => ?_)
          refine mm_aload_n (pc := 83) (j := 1) dX12_qTest_83 rfl rfl ?_
          refine mm_kVV (pc := 84) [] dX12_qTest_84 kX12_687 rfl sh_164 (Nat.le_of_ble_eq_true rfl) (Nat.le_of_ble_eq_true rfl) h (fun m84 hG h => ?_)
          refine mm_aload_n (pc := 87) (j := 1) dX12_qTest_87 rfl rfl ?_
          refine mm_getI (pc := 88) (ci := 12) (N := 116) dX12_qTest_88 fX12_260 sh_164 rfl ?_
          refine mm_if_ne (pc := 91) (tgt := 105) dX12_qTest_91 (by decide) (fun hc => ?_) (fun hc => ?_)
          · have h := mm_iff hc h
            refine mm_iconst (pc := 105) (x := 0) dX12_qTest_105 rfl ?_
            refine mm_istore_n (pc := 106) (lv' := [(1, .int 0), (2, .int z14), (0, .ref 164)]) dX12_qTest_106 rfl (by decide) rfl ?_
            refine mm_goto (pc := 107) (tgt := 2) dX12_qTest_107 (by decide) ?_
            exact mm_sub [2, 0] rfl h
          · have h := mm_ift hc h
            refine mm_aload_n (pc := 94) (j := 1) dX12_qTest_94 rfl rfl ?_
            refine mm_kVI (pc := 95) [] dX12_qTest_95 kX12_690 rfl sh_164 (Nat.le_of_ble_eq_true rfl) (Nat.le_of_ble_eq_true rfl) h (fun z95 m95 hG h => ?_)
            refine mm_if_eq (pc := 98) (tgt := 105) dX12_qTest_98 (by decide) (fun hc => ?_) (fun hc => ?_)
            · have h := mm_ift hc h
              refine mm_iconst (pc := 105) (x := 0) dX12_qTest_105 rfl ?_
              refine mm_istore_n (pc := 106) (lv' := [(1, .int 0), (2, .int z14), (0, .ref 164)]) dX12_qTest_106 rfl (by decide) rfl ?_
              refine mm_goto (pc := 107) (tgt := 2) dX12_qTest_107 (by decide) ?_
              exact mm_sub [2, 0] rfl h
            · have h := mm_iff hc h
              refine mm_iconst (pc := 101) (x := 1) dX12_qTest_101 rfl ?_
              refine mm_goto (pc := 102) (tgt := 106) dX12_qTest_102 (by decide) ?_
              refine mm_istore_n (pc := 106) (lv' := [(1, .int 1), (2, .int z14), (0, .ref 164)]) dX12_qTest_106 rfl (by decide) rfl ?_
              refine mm_goto (pc := 107) (tgt := 2) dX12_qTest_107 (by decide) ?_
              exact mm_sub [2, 0] rfl h
        · have h := mm_iff hc h
          refine mm_aload_n (pc := 58) (j := 1) dX12_qTest_58 rfl rfl ?_
          refine mm_bipush (pc := 59) (x := 12) dX12_qTest_59 rfl ?_
          refine mm_aload_n (pc := 61) (j := 1) dX12_qTest_61 rfl rfl ?_
          refine mm_getI (pc := 62) (ci := 12) (N := 116) dX12_qTest_62 fX12_266 sh_164 rfl ?_
          refine mm_kVV (pc := 65) [.int 12, .int (m52.1 164 2)] dX12_qTest_65 kX12_660 rfl sh_164 (Nat.le_of_ble_eq_true rfl) (Nat.le_of_ble_eq_true rfl) h (fun m65 hG h => ?_)
          refine mm_aload_n (pc := 68) (j := 1) dX12_qTest_68 rfl rfl ?_
          refine mm_aload_n (pc := 69) (j := 1) dX12_qTest_69 rfl rfl ?_
          refine mm_getR (pc := 70) (ci := 12) (N := 116) (r := 223) dX12_qTest_70 fX12_195 sh_164 rfl (g_164_88 hG) ?_
          refine mm_kVV (pc := 73) [.ref 223] dX12_qTest_73 kX12_325 rfl sh_164 (Nat.le_of_ble_eq_true rfl) (Nat.le_of_ble_eq_true rfl) h (fun m73 hG h => ?_)
          refine mm_goto (pc := 76) (tgt := 2) dX12_qTest_76 (by decide) ?_
          exact mm_sub [1, 2] rfl h
      · have h := mm_ift hc h
        refine mm_aload_n (pc := 24) (j := 1) dX12_qTest_24 rfl rfl ?_
        refine mm_bipush (pc := 25) (x := 25) dX12_qTest_25 rfl ?_
        refine mm_aload_n (pc := 27) (j := 1) dX12_qTest_27 rfl rfl ?_
        refine mm_getI (pc := 28) (ci := 12) (N := 116) dX12_qTest_28 fX12_266 sh_164 rfl ?_
        refine mm_kVV (pc := 31) [.int 25, .int (m14.1 164 2)] dX12_qTest_31 kX12_660 rfl sh_164 (Nat.le_of_ble_eq_true rfl) (Nat.le_of_ble_eq_true rfl) h (fun m31 hG h => ?_)
        refine mm_aload_n (pc := 34) (j := 1) dX12_qTest_34 rfl rfl ?_
        refine mm_dup (pc := 35) dX12_qTest_35 rfl ?_
        refine mm_getI (pc := 36) (ci := 12) (N := 116) dX12_qTest_36 fX12_266 sh_164 rfl ?_
        refine mm_iconst (pc := 39) (x := 1) dX12_qTest_39 rfl ?_
        refine mm_iadd (pc := 40) dX12_qTest_40 ?_
        refine mm_putI (pc := 41) (ci := 12) (N := 116) dX12_qTest_41 fX12_266 sh_164 (by decide +kernel) rfl rfl rfl ?_
        refine mm_goto (pc := 44) (tgt := 2) dX12_qTest_44 (by decide) ?_
        exact mm_sub [1, 2] rfl h
set_option maxRecDepth 100000 in
set_option maxHeartbeats 4000000 in
theorem lX12_qTest_110 {d : Nat} {M : mm_M} {K : mm_M → Prop} (hG : mm_G M.2.2) (h : if (M.1 164 5) = 0 then (if (M.1 164 107) ≤ 0 then (K M) else (mm_CV mX12_qDrops d [.ref 164] M (fun m125 => jX12_qTest_110 d m125 K))) else (K M)) : jX12_qTest_110 d  M K  := by
  unfold jX12_qTest_110
  refine mm_aload_n (pc := 110) (j := 0) dX12_qTest_110 rfl rfl ?_
  refine mm_getI (pc := 111) (ci := 12) (N := 116) dX12_qTest_111 fX12_260 sh_164 rfl ?_
  refine mm_if_ne (pc := 114) (tgt := 131) dX12_qTest_114 (by decide) (fun hc => ?_) (fun hc => ?_)
  · have h := mm_iff hc h
    exact mm_vret (pc := 131) dX12_qTest_131 rfl (Nat.le_refl 0) (Nat.le_refl 0) ⟨rfl, rfl, hG, h⟩
  · have h := mm_ift hc h
    refine mm_aload_n (pc := 117) (j := 0) dX12_qTest_117 rfl rfl ?_
    refine mm_getI (pc := 118) (ci := 12) (N := 116) dX12_qTest_118 fX12_357 sh_164 rfl ?_
    refine mm_if_le (pc := 121) (tgt := 131) dX12_qTest_121 (by decide) (fun hc => ?_) (fun hc => ?_)
    · have h := mm_ift hc h
      exact mm_vret (pc := 131) dX12_qTest_131 rfl (Nat.le_refl 0) (Nat.le_refl 0) ⟨rfl, rfl, hG, h⟩
    · have h := mm_iff hc h
      refine mm_aload_n (pc := 124) (j := 0) dX12_qTest_124 rfl rfl ?_
      refine mm_kVV (pc := 125) [] dX12_qTest_125 kX12_648 rfl sh_164 (Nat.le_of_ble_eq_true rfl) (Nat.le_of_ble_eq_true rfl) h (fun m125 hG h => ?_)
      refine mm_goto (pc := 128) (tgt := 110) dX12_qTest_128 (by decide) ?_
      exact h
def jX12_qGoesOnTest_76 (d : Nat) (M : mm_M) (K : Int32 → mm_M → Prop) : Prop := mm_W mX12_qGoesOnTest (d + 1) 0 0 76 [(0, .ref 164)] [] mm_SH M 0 0 (mm_PI K)
def jX12_qGoesOnTest_33 (d : Nat) (M : mm_M) (K : Int32 → mm_M → Prop) : Prop := mm_W mX12_qGoesOnTest (d + 1) 0 0 33 [(0, .ref 164)] [] mm_SH M 0 0 (mm_PI K)
def jX12_qGoesOnTest_137 (d : Nat) (M : mm_M) (K : Int32 → mm_M → Prop) : Prop := mm_W mX12_qGoesOnTest (d + 1) 0 0 137 [(0, .ref 164)] [] mm_SH M 0 0 (mm_PI K)
def jX12_qGoesOnTest_87 (d : Nat) (M : mm_M) (K : Int32 → mm_M → Prop) : Prop := mm_W mX12_qGoesOnTest (d + 1) 0 0 87 [(0, .ref 164)] [] mm_SH M 0 0 (mm_PI K)
def jX12_qGoesOnTest_0 (d : Nat) (M : mm_M) (K : Int32 → mm_M → Prop) : Prop := mm_W mX12_qGoesOnTest (d + 1) 0 0 0 [(0, .ref 164)] [] mm_SH M 0 0 (mm_PI K)
set_option maxRecDepth 100000 in
set_option maxHeartbeats 4000000 in
theorem rX12_qGoesOnTest {d : Nat} {M : mm_M} {K : Int32 → mm_M → Prop} (hG : mm_G M.2.2) (h : if (M.1 164 5) = 0 then (mm_CI mX12_look d [.ref 164] M (fun z8 m8 => if z8 = 93 then (mm_CI mX12_qHasSquare d [.ref 164] m8 (fun z17 m17 => if z17 = 0 then (jX12_qGoesOnTest_76 d m17 K) else (jX12_qGoesOnTest_33 d (mm_uI m17 164 2 ((m17.1 164 2) + 1)) K))) else (jX12_qGoesOnTest_76 d m8 K))) else (jX12_qGoesOnTest_76 d M K)) : mm_CI mX12_qGoesOnTest (d + 1) [.ref 164] M K := by
  show mm_W mX12_qGoesOnTest (d + 1) 0 0 0 [(0, .ref 164)] [] mm_SH M 0 0 (mm_PI K)
  refine mm_aload_n (pc := 0) (j := 0) dX12_qGoesOnTest_0 rfl rfl ?_
  refine mm_getI (pc := 1) (ci := 12) (N := 116) dX12_qGoesOnTest_1 fX12_260 sh_164 rfl ?_
  refine mm_if_ne (pc := 4) (tgt := 76) dX12_qGoesOnTest_4 (by decide) (fun hc => ?_) (fun hc => ?_)
  · have h := mm_iff hc h
    exact h
  · have h := mm_ift hc h
    refine mm_aload_n (pc := 7) (j := 0) dX12_qGoesOnTest_7 rfl rfl ?_
    refine mm_kVI (pc := 8) [] dX12_qGoesOnTest_8 kX12_272 rfl sh_164 (Nat.le_of_ble_eq_true rfl) (Nat.le_of_ble_eq_true rfl) h (fun z8 m8 hG h => ?_)
    refine mm_bipush (pc := 11) (x := 93) dX12_qGoesOnTest_11 rfl ?_
    refine mm_icmp_ne (pc := 13) (tgt := 76) dX12_qGoesOnTest_13 (by decide) (fun hc => ?_) (fun hc => ?_)
    · have h := mm_iff hc h
      exact h
    · have h := mm_ift hc h
      refine mm_aload_n (pc := 16) (j := 0) dX12_qGoesOnTest_16 rfl rfl ?_
      refine mm_kVI (pc := 17) [] dX12_qGoesOnTest_17 kX12_693 rfl sh_164 (Nat.le_of_ble_eq_true rfl) (Nat.le_of_ble_eq_true rfl) h (fun z17 m17 hG h => ?_)
      refine mm_if_eq (pc := 20) (tgt := 76) dX12_qGoesOnTest_20 (by decide) (fun hc => ?_) (fun hc => ?_)
      · have h := mm_ift hc h
        exact h
      · have h := mm_iff hc h
        refine mm_aload_n (pc := 23) (j := 0) dX12_qGoesOnTest_23 rfl rfl ?_
        refine mm_dup (pc := 24) dX12_qGoesOnTest_24 rfl ?_
        refine mm_getI (pc := 25) (ci := 12) (N := 116) dX12_qGoesOnTest_25 fX12_266 sh_164 rfl ?_
        refine mm_iconst (pc := 28) (x := 1) dX12_qGoesOnTest_28 rfl ?_
        refine mm_iadd (pc := 29) dX12_qGoesOnTest_29 ?_
        refine mm_putI (pc := 30) (ci := 12) (N := 116) dX12_qGoesOnTest_30 fX12_266 sh_164 (by decide +kernel) rfl rfl rfl ?_
        exact h
set_option maxRecDepth 100000 in
set_option maxHeartbeats 4000000 in
theorem lX12_qGoesOnTest_76 {d : Nat} {M : mm_M} {K : Int32 → mm_M → Prop} (hG : mm_G M.2.2) (h : mm_CI mX12_takes d [.ref 164, .ref 224] M (fun z81 m81 => if z81 = 0 then (mm_CI mX12_takes d [.ref 164, .ref 225] m81 (fun z131 m131 => if z131 = 0 then (if (m131.1 164 5) = 0 then (mm_CI mX12_qHasSquare d [.ref 164] m131 (fun z193 m193 => if z193 = 0 then (K 0 m193) else (mm_CV mX12_fail d [.ref 164, .int 1, .int (m193.1 164 2)] m193 (fun m205 => K 0 m205)))) else (K 0 m131)) else (jX12_qGoesOnTest_137 d m131 K))) else (jX12_qGoesOnTest_87 d m81 K))) : jX12_qGoesOnTest_76 d  M K  := by
  unfold jX12_qGoesOnTest_76
  refine mm_aload_n (pc := 76) (j := 0) dX12_qGoesOnTest_76 rfl rfl ?_
  refine mm_aload_n (pc := 77) (j := 0) dX12_qGoesOnTest_77 rfl rfl ?_
  refine mm_getR (pc := 78) (ci := 12) (N := 116) (r := 224) dX12_qGoesOnTest_78 fX12_198 sh_164 rfl (g_164_89 hG) ?_
  refine mm_kVI (pc := 81) [.ref 224] dX12_qGoesOnTest_81 kX12_287 rfl sh_164 (Nat.le_of_ble_eq_true rfl) (Nat.le_of_ble_eq_true rfl) h (fun z81 m81 hG h => ?_)
  refine mm_if_eq (pc := 84) (tgt := 126) dX12_qGoesOnTest_84 (by decide) (fun hc => ?_) (fun hc => ?_)
  · have h := mm_ift hc h
    refine mm_aload_n (pc := 126) (j := 0) dX12_qGoesOnTest_126 rfl rfl ?_
    refine mm_aload_n (pc := 127) (j := 0) dX12_qGoesOnTest_127 rfl rfl ?_
    refine mm_getR (pc := 128) (ci := 12) (N := 116) (r := 225) dX12_qGoesOnTest_128 fX12_201 sh_164 rfl (g_164_90 hG) ?_
    refine mm_kVI (pc := 131) [.ref 225] dX12_qGoesOnTest_131 kX12_287 rfl sh_164 (Nat.le_of_ble_eq_true rfl) (Nat.le_of_ble_eq_true rfl) h (fun z131 m131 hG h => ?_)
    refine mm_if_eq (pc := 134) (tgt := 185) dX12_qGoesOnTest_134 (by decide) (fun hc => ?_) (fun hc => ?_)
    · have h := mm_ift hc h
      refine mm_aload_n (pc := 185) (j := 0) dX12_qGoesOnTest_185 rfl rfl ?_
      refine mm_getI (pc := 186) (ci := 12) (N := 116) dX12_qGoesOnTest_186 fX12_260 sh_164 rfl ?_
      refine mm_if_ne (pc := 189) (tgt := 208) dX12_qGoesOnTest_189 (by decide) (fun hc => ?_) (fun hc => ?_)
      · have h := mm_iff hc h
        refine mm_iconst (pc := 208) (x := 0) dX12_qGoesOnTest_208 rfl ?_
        exact mm_zret (pc := 209) dX12_qGoesOnTest_209 rfl rfl (Nat.le_refl 0) (Nat.le_refl 0) ⟨_, rfl, rfl, hG, h⟩
      · have h := mm_ift hc h
        refine mm_aload_n (pc := 192) (j := 0) dX12_qGoesOnTest_192 rfl rfl ?_
        refine mm_kVI (pc := 193) [] dX12_qGoesOnTest_193 kX12_693 rfl sh_164 (Nat.le_of_ble_eq_true rfl) (Nat.le_of_ble_eq_true rfl) h (fun z193 m193 hG h => ?_)
        refine mm_if_eq (pc := 196) (tgt := 208) dX12_qGoesOnTest_196 (by decide) (fun hc => ?_) (fun hc => ?_)
        · have h := mm_ift hc h
          refine mm_iconst (pc := 208) (x := 0) dX12_qGoesOnTest_208 rfl ?_
          exact mm_zret (pc := 209) dX12_qGoesOnTest_209 rfl rfl (Nat.le_refl 0) (Nat.le_refl 0) ⟨_, rfl, rfl, hG, h⟩
        · have h := mm_iff hc h
          refine mm_aload_n (pc := 199) (j := 0) dX12_qGoesOnTest_199 rfl rfl ?_
          refine mm_iconst (pc := 200) (x := 1) dX12_qGoesOnTest_200 rfl ?_
          refine mm_aload_n (pc := 201) (j := 0) dX12_qGoesOnTest_201 rfl rfl ?_
          refine mm_getI (pc := 202) (ci := 12) (N := 116) dX12_qGoesOnTest_202 fX12_266 sh_164 rfl ?_
          refine mm_kVV (pc := 205) [.int 1, .int (m193.1 164 2)] dX12_qGoesOnTest_205 kX12_290 rfl sh_164 (Nat.le_of_ble_eq_true rfl) (Nat.le_of_ble_eq_true rfl) h (fun m205 hG h => ?_)
          refine mm_iconst (pc := 208) (x := 0) dX12_qGoesOnTest_208 rfl ?_
          exact mm_zret (pc := 209) dX12_qGoesOnTest_209 rfl rfl (Nat.le_refl 0) (Nat.le_refl 0) ⟨_, rfl, rfl, hG, h⟩
    · have h := mm_iff hc h
      exact h
  · have h := mm_iff hc h
    exact h
set_option maxRecDepth 100000 in
set_option maxHeartbeats 4000000 in
theorem lX12_qGoesOnTest_33 {d : Nat} {M : mm_M} {K : Int32 → mm_M → Prop} (hG : mm_G M.2.2) (h : mm_CI mX12_qIsOn d [.ref 164, .int 25] M (fun z36 m36 => if z36 = 0 then (mm_CV mX12_qDrops d [.ref 164] m36 (fun m43 => jX12_qGoesOnTest_33 d m43 K)) else (mm_CV mX12_qDropsNots d [.ref 164] (mm_uI (mm_uI m36 164 107 ((m36.1 164 107) - 1)) 164 108 (((mm_uI m36 164 107 ((m36.1 164 107) - 1)).1 164 108) - 1)) (fun m70 => jX12_qGoesOnTest_0 d m70 K)))) : jX12_qGoesOnTest_33 d  M K  := by
  unfold jX12_qGoesOnTest_33
  refine mm_aload_n (pc := 33) (j := 0) dX12_qGoesOnTest_33 rfl rfl ?_
  refine mm_bipush (pc := 34) (x := 25) dX12_qGoesOnTest_34 rfl ?_
  refine mm_kVI (pc := 36) [.int 25] dX12_qGoesOnTest_36 kX12_675 rfl sh_164 (Nat.le_of_ble_eq_true rfl) (Nat.le_of_ble_eq_true rfl) h (fun z36 m36 hG h => ?_)
  refine mm_if_ne (pc := 39) (tgt := 49) dX12_qGoesOnTest_39 (by decide) (fun hc => ?_) (fun hc => ?_)
  · have h := mm_iff hc h
    refine mm_aload_n (pc := 49) (j := 0) dX12_qGoesOnTest_49 rfl rfl ?_
    refine mm_dup (pc := 50) dX12_qGoesOnTest_50 rfl ?_
    refine mm_getI (pc := 51) (ci := 12) (N := 116) dX12_qGoesOnTest_51 fX12_357 sh_164 rfl ?_
    refine mm_iconst (pc := 54) (x := 1) dX12_qGoesOnTest_54 rfl ?_
    refine mm_isub (pc := 55) dX12_qGoesOnTest_55 ?_
    refine mm_putI (pc := 56) (ci := 12) (N := 116) dX12_qGoesOnTest_56 fX12_357 sh_164 (by decide +kernel) rfl rfl rfl ?_
    refine mm_aload_n (pc := 59) (j := 0) dX12_qGoesOnTest_59 rfl rfl ?_
    refine mm_dup (pc := 60) dX12_qGoesOnTest_60 rfl ?_
    refine mm_getI (pc := 61) (ci := 12) (N := 116) dX12_qGoesOnTest_61 fX12_360 sh_164 rfl ?_
    refine mm_iconst (pc := 64) (x := 1) dX12_qGoesOnTest_64 rfl ?_
    refine mm_isub (pc := 65) dX12_qGoesOnTest_65 ?_
    refine mm_putI (pc := 66) (ci := 12) (N := 116) dX12_qGoesOnTest_66 fX12_360 sh_164 (by decide +kernel) rfl rfl rfl ?_
    refine mm_aload_n (pc := 69) (j := 0) dX12_qGoesOnTest_69 rfl rfl ?_
    refine mm_kVV (pc := 70) [] dX12_qGoesOnTest_70 kX12_687 rfl sh_164 (Nat.le_of_ble_eq_true rfl) (Nat.le_of_ble_eq_true rfl) h (fun m70 hG h => ?_)
    refine mm_goto (pc := 73) (tgt := 0) dX12_qGoesOnTest_73 (by decide) ?_
    exact h
  · have h := mm_ift hc h
    refine mm_aload_n (pc := 42) (j := 0) dX12_qGoesOnTest_42 rfl rfl ?_
    refine mm_kVV (pc := 43) [] dX12_qGoesOnTest_43 kX12_648 rfl sh_164 (Nat.le_of_ble_eq_true rfl) (Nat.le_of_ble_eq_true rfl) h (fun m43 hG h => ?_)
    refine mm_goto (pc := 46) (tgt := 33) dX12_qGoesOnTest_46 (by decide) ?_
    exact h
set_option maxRecDepth 100000 in
set_option maxHeartbeats 4000000 in
theorem lX12_qGoesOnTest_137 {d : Nat} {M : mm_M} {K : Int32 → mm_M → Prop} (hG : mm_G M.2.2) (h : mm_CI mX12_qIsOn d [.ref 164, .int 10] M (fun z140 m140 => if z140 = 0 then (mm_CI mX12_qIsOn d [.ref 164, .int 11] m140 (fun z149 m149 => if z149 = 0 then (vp_in (m149.1 164 107) 1700 ∧ K 1 (mm_uI (mm_uI m149 240 (m149.1 164 107).toNatClampNeg 11) 164 107 (((mm_uI m149 240 (m149.1 164 107).toNatClampNeg 11).1 164 107) + 1))) else (mm_CV mX12_qDrops d [.ref 164] m149 (fun m156 => jX12_qGoesOnTest_137 d m156 K)))) else (mm_CV mX12_qDrops d [.ref 164] m140 (fun m156 => jX12_qGoesOnTest_137 d m156 K)))) : jX12_qGoesOnTest_137 d  M K  := by
  unfold jX12_qGoesOnTest_137
  refine mm_aload_n (pc := 137) (j := 0) dX12_qGoesOnTest_137 rfl rfl ?_
  refine mm_bipush (pc := 138) (x := 10) dX12_qGoesOnTest_138 rfl ?_
  refine mm_kVI (pc := 140) [.int 10] dX12_qGoesOnTest_140 kX12_675 rfl sh_164 (Nat.le_of_ble_eq_true rfl) (Nat.le_of_ble_eq_true rfl) h (fun z140 m140 hG h => ?_)
  refine mm_if_ne (pc := 143) (tgt := 155) dX12_qGoesOnTest_143 (by decide) (fun hc => ?_) (fun hc => ?_)
  · have h := mm_iff hc h
    refine mm_aload_n (pc := 155) (j := 0) dX12_qGoesOnTest_155 rfl rfl ?_
    refine mm_kVV (pc := 156) [] dX12_qGoesOnTest_156 kX12_648 rfl sh_164 (Nat.le_of_ble_eq_true rfl) (Nat.le_of_ble_eq_true rfl) h (fun m156 hG h => ?_)
    refine mm_goto (pc := 159) (tgt := 137) dX12_qGoesOnTest_159 (by decide) ?_
    exact h
  · have h := mm_ift hc h
    refine mm_aload_n (pc := 146) (j := 0) dX12_qGoesOnTest_146 rfl rfl ?_
    refine mm_bipush (pc := 147) (x := 11) dX12_qGoesOnTest_147 rfl ?_
    refine mm_kVI (pc := 149) [.int 11] dX12_qGoesOnTest_149 kX12_675 rfl sh_164 (Nat.le_of_ble_eq_true rfl) (Nat.le_of_ble_eq_true rfl) h (fun z149 m149 hG h => ?_)
    refine mm_if_eq (pc := 152) (tgt := 162) dX12_qGoesOnTest_152 (by decide) (fun hc => ?_) (fun hc => ?_)
    · have h := mm_ift hc h
      refine mm_aload_n (pc := 162) (j := 0) dX12_qGoesOnTest_162 rfl rfl ?_
      refine mm_getR (pc := 163) (ci := 12) (N := 116) (r := 240) dX12_qGoesOnTest_163 fX12_246 sh_164 rfl (g_164_106 hG) ?_
      refine mm_aload_n (pc := 166) (j := 0) dX12_qGoesOnTest_166 rfl rfl ?_
      refine mm_getI (pc := 167) (ci := 12) (N := 116) dX12_qGoesOnTest_167 fX12_357 sh_164 rfl ?_
      refine mm_bipush (pc := 170) (x := 11) dX12_qGoesOnTest_170 rfl ?_
      obtain ⟨hi172, h⟩ := h
      refine mm_iastore (pc := 172) (N := 1700) dX12_qGoesOnTest_172 sh_240 hi172 ?_
      refine mm_aload_n (pc := 173) (j := 0) dX12_qGoesOnTest_173 rfl rfl ?_
      refine mm_dup (pc := 174) dX12_qGoesOnTest_174 rfl ?_
      refine mm_getI (pc := 175) (ci := 12) (N := 116) dX12_qGoesOnTest_175 fX12_357 sh_164 rfl ?_
      refine mm_iconst (pc := 178) (x := 1) dX12_qGoesOnTest_178 rfl ?_
      refine mm_iadd (pc := 179) dX12_qGoesOnTest_179 ?_
      refine mm_putI (pc := 180) (ci := 12) (N := 116) dX12_qGoesOnTest_180 fX12_357 sh_164 (by decide +kernel) rfl rfl rfl ?_
      refine mm_iconst (pc := 183) (x := 1) dX12_qGoesOnTest_183 rfl ?_
      exact mm_zret (pc := 184) dX12_qGoesOnTest_184 rfl rfl (Nat.le_refl 0) (Nat.le_refl 0) ⟨_, rfl, rfl, hG, h⟩
    · have h := mm_iff hc h
      refine mm_aload_n (pc := 155) (j := 0) dX12_qGoesOnTest_155 rfl rfl ?_
      refine mm_kVV (pc := 156) [] dX12_qGoesOnTest_156 kX12_648 rfl sh_164 (Nat.le_of_ble_eq_true rfl) (Nat.le_of_ble_eq_true rfl) h (fun m156 hG h => ?_)
      refine mm_goto (pc := 159) (tgt := 137) dX12_qGoesOnTest_159 (by decide) ?_
      exact h
set_option maxRecDepth 100000 in
set_option maxHeartbeats 4000000 in
theorem lX12_qGoesOnTest_87 {d : Nat} {M : mm_M} {K : Int32 → mm_M → Prop} (hG : mm_G M.2.2) (h : mm_CI mX12_qIsOn d [.ref 164, .int 10] M (fun z90 m90 => if z90 = 0 then (vp_in (m90.1 164 107) 1700 ∧ K 1 (mm_uI (mm_uI m90 240 (m90.1 164 107).toNatClampNeg 10) 164 107 (((mm_uI m90 240 (m90.1 164 107).toNatClampNeg 10).1 164 107) + 1))) else (mm_CV mX12_qDrops d [.ref 164] m90 (fun m97 => jX12_qGoesOnTest_87 d m97 K)))) : jX12_qGoesOnTest_87 d  M K  := by
  unfold jX12_qGoesOnTest_87
  refine mm_aload_n (pc := 87) (j := 0) dX12_qGoesOnTest_87 rfl rfl ?_
  refine mm_bipush (pc := 88) (x := 10) dX12_qGoesOnTest_88 rfl ?_
  refine mm_kVI (pc := 90) [.int 10] dX12_qGoesOnTest_90 kX12_675 rfl sh_164 (Nat.le_of_ble_eq_true rfl) (Nat.le_of_ble_eq_true rfl) h (fun z90 m90 hG h => ?_)
  refine mm_if_eq (pc := 93) (tgt := 103) dX12_qGoesOnTest_93 (by decide) (fun hc => ?_) (fun hc => ?_)
  · have h := mm_ift hc h
    refine mm_aload_n (pc := 103) (j := 0) dX12_qGoesOnTest_103 rfl rfl ?_
    refine mm_getR (pc := 104) (ci := 12) (N := 116) (r := 240) dX12_qGoesOnTest_104 fX12_246 sh_164 rfl (g_164_106 hG) ?_
    refine mm_aload_n (pc := 107) (j := 0) dX12_qGoesOnTest_107 rfl rfl ?_
    refine mm_getI (pc := 108) (ci := 12) (N := 116) dX12_qGoesOnTest_108 fX12_357 sh_164 rfl ?_
    refine mm_bipush (pc := 111) (x := 10) dX12_qGoesOnTest_111 rfl ?_
    obtain ⟨hi113, h⟩ := h
    refine mm_iastore (pc := 113) (N := 1700) dX12_qGoesOnTest_113 sh_240 hi113 ?_
    refine mm_aload_n (pc := 114) (j := 0) dX12_qGoesOnTest_114 rfl rfl ?_
    refine mm_dup (pc := 115) dX12_qGoesOnTest_115 rfl ?_
    refine mm_getI (pc := 116) (ci := 12) (N := 116) dX12_qGoesOnTest_116 fX12_357 sh_164 rfl ?_
    refine mm_iconst (pc := 119) (x := 1) dX12_qGoesOnTest_119 rfl ?_
    refine mm_iadd (pc := 120) dX12_qGoesOnTest_120 ?_
    refine mm_putI (pc := 121) (ci := 12) (N := 116) dX12_qGoesOnTest_121 fX12_357 sh_164 (by decide +kernel) rfl rfl rfl ?_
    refine mm_iconst (pc := 124) (x := 1) dX12_qGoesOnTest_124 rfl ?_
    exact mm_zret (pc := 125) dX12_qGoesOnTest_125 rfl rfl (Nat.le_refl 0) (Nat.le_refl 0) ⟨_, rfl, rfl, hG, h⟩
  · have h := mm_iff hc h
    refine mm_aload_n (pc := 96) (j := 0) dX12_qGoesOnTest_96 rfl rfl ?_
    refine mm_kVV (pc := 97) [] dX12_qGoesOnTest_97 kX12_648 rfl sh_164 (Nat.le_of_ble_eq_true rfl) (Nat.le_of_ble_eq_true rfl) h (fun m97 hG h => ?_)
    refine mm_goto (pc := 100) (tgt := 87) dX12_qGoesOnTest_100 (by decide) ?_
    exact h
set_option maxRecDepth 100000 in
set_option maxHeartbeats 4000000 in
theorem lX12_qGoesOnTest_0 {d : Nat} {M : mm_M} {K : Int32 → mm_M → Prop} (hG : mm_G M.2.2) (h : if (M.1 164 5) = 0 then (mm_CI mX12_look d [.ref 164] M (fun z8 m8 => if z8 = 93 then (mm_CI mX12_qHasSquare d [.ref 164] m8 (fun z17 m17 => if z17 = 0 then (jX12_qGoesOnTest_76 d m17 K) else (jX12_qGoesOnTest_33 d (mm_uI m17 164 2 ((m17.1 164 2) + 1)) K))) else (jX12_qGoesOnTest_76 d m8 K))) else (jX12_qGoesOnTest_76 d M K)) : jX12_qGoesOnTest_0 d  M K  := by
  unfold jX12_qGoesOnTest_0
  refine mm_aload_n (pc := 0) (j := 0) dX12_qGoesOnTest_0 rfl rfl ?_
  refine mm_getI (pc := 1) (ci := 12) (N := 116) dX12_qGoesOnTest_1 fX12_260 sh_164 rfl ?_
  refine mm_if_ne (pc := 4) (tgt := 76) dX12_qGoesOnTest_4 (by decide) (fun hc => ?_) (fun hc => ?_)
  · have h := mm_iff hc h
    exact h
  · have h := mm_ift hc h
    refine mm_aload_n (pc := 7) (j := 0) dX12_qGoesOnTest_7 rfl rfl ?_
    refine mm_kVI (pc := 8) [] dX12_qGoesOnTest_8 kX12_272 rfl sh_164 (Nat.le_of_ble_eq_true rfl) (Nat.le_of_ble_eq_true rfl) h (fun z8 m8 hG h => ?_)
    refine mm_bipush (pc := 11) (x := 93) dX12_qGoesOnTest_11 rfl ?_
    refine mm_icmp_ne (pc := 13) (tgt := 76) dX12_qGoesOnTest_13 (by decide) (fun hc => ?_) (fun hc => ?_)
    · have h := mm_iff hc h
      exact h
    · have h := mm_ift hc h
      refine mm_aload_n (pc := 16) (j := 0) dX12_qGoesOnTest_16 rfl rfl ?_
      refine mm_kVI (pc := 17) [] dX12_qGoesOnTest_17 kX12_693 rfl sh_164 (Nat.le_of_ble_eq_true rfl) (Nat.le_of_ble_eq_true rfl) h (fun z17 m17 hG h => ?_)
      refine mm_if_eq (pc := 20) (tgt := 76) dX12_qGoesOnTest_20 (by decide) (fun hc => ?_) (fun hc => ?_)
      · have h := mm_ift hc h
        exact h
      · have h := mm_iff hc h
        refine mm_aload_n (pc := 23) (j := 0) dX12_qGoesOnTest_23 rfl rfl ?_
        refine mm_dup (pc := 24) dX12_qGoesOnTest_24 rfl ?_
        refine mm_getI (pc := 25) (ci := 12) (N := 116) dX12_qGoesOnTest_25 fX12_266 sh_164 rfl ?_
        refine mm_iconst (pc := 28) (x := 1) dX12_qGoesOnTest_28 rfl ?_
        refine mm_iadd (pc := 29) dX12_qGoesOnTest_29 ?_
        refine mm_putI (pc := 30) (ci := 12) (N := 116) dX12_qGoesOnTest_30 fX12_266 sh_164 (by decide +kernel) rfl rfl rfl ?_
        exact h
