set_option maxRecDepth 100000 in
set_option maxHeartbeats 4000000 in
theorem rX11_feed {d : Nat} {x1 : Int32} {x2 : Int32} {x3 : Int32} {x4 : Int32} {x5 : Int32} {M : mm_M} {K : Int32 → mm_M → Prop} (hG : mm_G M.2.2) (h : if ((M.1 0 1) + 20) ≤ 1600 then (mm_CV mX11_putOnTape d [.ref 0, .int x1] M (fun m21 => mm_CV mX11_putOnTape d [.ref 0, .int x2] m21 (fun m26 => mm_CV mX11_putOnTape d [.ref 0, .int x3] m26 (fun m31 => mm_CV mX11_putOnTape d [.ref 0, .int x4] m31 (fun m37 => mm_CV mX11_putOnTape d [.ref 0, .int x5] m37 (fun m43 => K (m43.1 0 1) m43)))))) else (mm_CI mX11_refuse d [.ref 0, .int 0] M (fun z15 m15 => K z15 m15))) : mm_CI mX11_feed (d + 1) [.ref 0, .int x1, .int x2, .int x3, .int x4, .int x5] M K := by
  show mm_W mX11_feed (d + 1) 0 0 0 [(0, .ref 0), (1, .int x1), (2, .int x2), (3, .int x3), (4, .int x4), (5, .int x5)] [] mm_SH M 0 0 (mm_PI K)
  refine mm_aload_n (pc := 0) (j := 0) dX11_feed_0 rfl rfl ?_
  refine mm_getI (pc := 1) (ci := 11) (N := 19) dX11_feed_1 fX11_94 sh_0 rfl ?_
  refine mm_bipush (pc := 4) (x := 20) dX11_feed_4 rfl ?_
  refine mm_iadd (pc := 6) dX11_feed_6 ?_
  refine mm_sipush (pc := 7) (x := 1600) dX11_feed_7 rfl ?_
  refine mm_icmp_le (pc := 10) (tgt := 19) dX11_feed_10 (by decide) (fun hc => ?_) (fun hc => ?_)
  · have h := mm_ift hc h
    refine mm_aload_n (pc := 19) (j := 0) dX11_feed_19 rfl rfl ?_
    refine mm_iload_n (pc := 20) (j := 1) dX11_feed_20 rfl rfl ?_
    refine mm_kVV (pc := 21) [.int x1] dX11_feed_21 kX11_100 rfl sh_0 (Nat.le_of_ble_eq_true rfl) (Nat.le_of_ble_eq_true rfl) h (fun m21 hG h => ?_)
    refine mm_aload_n (pc := 24) (j := 0) dX11_feed_24 rfl rfl ?_
    refine mm_iload_n (pc := 25) (j := 2) dX11_feed_25 rfl rfl ?_
    refine mm_kVV (pc := 26) [.int x2] dX11_feed_26 kX11_100 rfl sh_0 (Nat.le_of_ble_eq_true rfl) (Nat.le_of_ble_eq_true rfl) h (fun m26 hG h => ?_)
    refine mm_aload_n (pc := 29) (j := 0) dX11_feed_29 rfl rfl ?_
    refine mm_iload_n (pc := 30) (j := 3) dX11_feed_30 rfl rfl ?_
    refine mm_kVV (pc := 31) [.int x3] dX11_feed_31 kX11_100 rfl sh_0 (Nat.le_of_ble_eq_true rfl) (Nat.le_of_ble_eq_true rfl) h (fun m31 hG h => ?_)
    refine mm_aload_n (pc := 34) (j := 0) dX11_feed_34 rfl rfl ?_
    refine mm_iload (pc := 35) (j := 4) dX11_feed_35 rfl ?_
    refine mm_kVV (pc := 37) [.int x4] dX11_feed_37 kX11_100 rfl sh_0 (Nat.le_of_ble_eq_true rfl) (Nat.le_of_ble_eq_true rfl) h (fun m37 hG h => ?_)
    refine mm_aload_n (pc := 40) (j := 0) dX11_feed_40 rfl rfl ?_
    refine mm_iload (pc := 41) (j := 5) dX11_feed_41 rfl ?_
    refine mm_kVV (pc := 43) [.int x5] dX11_feed_43 kX11_100 rfl sh_0 (Nat.le_of_ble_eq_true rfl) (Nat.le_of_ble_eq_true rfl) h (fun m43 hG h => ?_)
    refine mm_aload_n (pc := 46) (j := 0) dX11_feed_46 rfl rfl ?_
    refine mm_getI (pc := 47) (ci := 11) (N := 19) dX11_feed_47 fX11_94 sh_0 rfl ?_
    exact mm_iret (pc := 50) dX11_feed_50 rfl (Nat.le_refl 0) (Nat.le_refl 0) ⟨_, rfl, rfl, hG, h⟩
  · have h := mm_iff hc h
    refine mm_aload_n (pc := 13) (j := 0) dX11_feed_13 rfl rfl ?_
    refine mm_iconst (pc := 14) (x := 0) dX11_feed_14 rfl ?_
    refine mm_kVI (pc := 15) [.int 0] dX11_feed_15 kX11_97 rfl sh_0 (Nat.le_of_ble_eq_true rfl) (Nat.le_of_ble_eq_true rfl) h (fun z15 m15 hG h => ?_)
    exact mm_iret (pc := 18) dX11_feed_18 rfl (Nat.le_refl 0) (Nat.le_refl 0) ⟨_, rfl, rfl, hG, h⟩
set_option maxRecDepth 100000 in
set_option maxHeartbeats 4000000 in
theorem rX11_end {d : Nat} {x1 : Int32} {M : mm_M} {K : Int32 → mm_M → Prop} (hG : mm_G M.2.2) (h : if x1 < 0 then (mm_CI mX11_refuse d [.ref 0, .int 0] M (fun z14 m14 => K 0 m14)) else (if x1 ≤ (M.1 0 1) then (K 1 (mm_uI M 0 1 x1)) else (mm_CI mX11_refuse d [.ref 0, .int 0] M (fun z14 m14 => K 0 m14)))) : mm_CI mX11_end (d + 1) [.ref 0, .int x1] M K := by
  show mm_W mX11_end (d + 1) 0 0 0 [(0, .ref 0), (1, .int x1)] [] mm_SH M 0 0 (mm_PI K)
  refine mm_iload_n (pc := 0) (j := 1) dX11_end_0 rfl rfl ?_
  refine mm_if_lt (pc := 1) (tgt := 12) dX11_end_1 (by decide) (fun hc => ?_) (fun hc => ?_)
  · have h := mm_ift hc h
    refine mm_aload_n (pc := 12) (j := 0) dX11_end_12 rfl rfl ?_
    refine mm_iconst (pc := 13) (x := 0) dX11_end_13 rfl ?_
    refine mm_kVI (pc := 14) [.int 0] dX11_end_14 kX11_97 rfl sh_0 (Nat.le_of_ble_eq_true rfl) (Nat.le_of_ble_eq_true rfl) h (fun z14 m14 hG h => ?_)
    refine mm_pop (pc := 17) dX11_end_17 rfl ?_
    refine mm_iconst (pc := 18) (x := 0) dX11_end_18 rfl ?_
    exact mm_zret (pc := 19) dX11_end_19 rfl rfl (Nat.le_refl 0) (Nat.le_refl 0) ⟨_, rfl, rfl, hG, h⟩
  · have h := mm_iff hc h
    refine mm_iload_n (pc := 4) (j := 1) dX11_end_4 rfl rfl ?_
    refine mm_aload_n (pc := 5) (j := 0) dX11_end_5 rfl rfl ?_
    refine mm_getI (pc := 6) (ci := 11) (N := 19) dX11_end_6 fX11_94 sh_0 rfl ?_
    refine mm_icmp_le (pc := 9) (tgt := 20) dX11_end_9 (by decide) (fun hc => ?_) (fun hc => ?_)
    · have h := mm_ift hc h
      refine mm_aload_n (pc := 20) (j := 0) dX11_end_20 rfl rfl ?_
      refine mm_iload_n (pc := 21) (j := 1) dX11_end_21 rfl rfl ?_
      refine mm_putI (pc := 22) (ci := 11) (N := 19) dX11_end_22 fX11_94 sh_0 (by decide +kernel) rfl rfl rfl ?_
      refine mm_iconst (pc := 25) (x := 1) dX11_end_25 rfl ?_
      exact mm_zret (pc := 26) dX11_end_26 rfl rfl (Nat.le_refl 0) (Nat.le_refl 0) ⟨_, rfl, rfl, hG, h⟩
    · have h := mm_iff hc h
      refine mm_aload_n (pc := 12) (j := 0) dX11_end_12 rfl rfl ?_
      refine mm_iconst (pc := 13) (x := 0) dX11_end_13 rfl ?_
      refine mm_kVI (pc := 14) [.int 0] dX11_end_14 kX11_97 rfl sh_0 (Nat.le_of_ble_eq_true rfl) (Nat.le_of_ble_eq_true rfl) h (fun z14 m14 hG h => ?_)
      refine mm_pop (pc := 17) dX11_end_17 rfl ?_
      refine mm_iconst (pc := 18) (x := 0) dX11_end_18 rfl ?_
      exact mm_zret (pc := 19) dX11_end_19 rfl rfl (Nat.le_refl 0) (Nat.le_refl 0) ⟨_, rfl, rfl, hG, h⟩
set_option maxRecDepth 100000 in
set_option maxHeartbeats 4000000 in
theorem rX11_duchy {d : Nat} {M : mm_M} {K : Int32 → mm_M → Prop} (hG : mm_G M.2.2) (h : mm_CI mX11_takeTape d [.ref 0] M (fun z9 m9 => mm_CV mX2_read d [.ref 4, .ref 1, .int z9] m9 (fun m12 => mm_CV mX11_noteFault d [.ref 0, .ref 5] m12 (fun m23 => if (m23.1 0 3) = 0 then (∃ q45 : Nat, m23.2.2 0 11 = some q45 ∧ q45 ∈ mm_Rls ∧ mm_CR mX2_exchange d [.ref 4, .ref q45] m23 (fun z48 m48 => z48 ∈ mm_Rls ∧ ∃ q59 : Nat, (mm_uR m48 0 11 (some z48)).2.2 0 11 = some q59 ∧ q59 ∈ mm_Rls ∧ ∃ q70 : Nat, (mm_uR (mm_uR m48 0 11 (some z48)) 21 0 (some q59)).2.2 0 11 = some q70 ∧ q70 ∈ mm_Rls ∧ mm_CV mX9_begin d [.ref 37, .ref q70] (mm_uR (mm_uR m48 0 11 (some z48)) 21 0 (some q59)) (fun m73 => ∃ q103 : Nat, (mm_uI (mm_uI (mm_uI m73 47 2 0) 159 0 0) 0 18 (((mm_uI (mm_uI m73 47 2 0) 159 0 0).1 0 18) + 1)).2.2 0 11 = some q103 ∧ q103 ∈ mm_Rls ∧ K ((mm_uI (mm_uI (mm_uI m73 47 2 0) 159 0 0) 0 18 (((mm_uI (mm_uI m73 47 2 0) 159 0 0).1 0 18) + 1)).1 q103 0) (mm_uI (mm_uI (mm_uI m73 47 2 0) 159 0 0) 0 18 (((mm_uI (mm_uI m73 47 2 0) 159 0 0).1 0 18) + 1))))) else (mm_CI mX11_refuse d [.ref 0, .int 1] m23 (fun z35 m35 => K z35 m35)))))) : mm_CI mX11_duchy (d + 1) [.ref 0] M K := by
  show mm_W mX11_duchy (d + 1) 0 0 0 [(0, .ref 0)] [] mm_SH M 0 0 (mm_PI K)
  refine mm_aload_n (pc := 0) (j := 0) dX11_duchy_0 rfl rfl ?_
  refine mm_getR (pc := 1) (ci := 11) (N := 19) (r := 4) dX11_duchy_1 fX11_35 sh_0 rfl (g_0_8 hG) ?_
  refine mm_aload_n (pc := 4) (j := 0) dX11_duchy_4 rfl rfl ?_
  refine mm_getR (pc := 5) (ci := 11) (N := 19) (r := 1) dX11_duchy_5 fX11_9 sh_0 rfl (g_0_0 hG) ?_
  refine mm_aload_n (pc := 8) (j := 0) dX11_duchy_8 rfl rfl ?_
  refine mm_kVI (pc := 9) [] dX11_duchy_9 kX11_104 rfl sh_0 (Nat.le_of_ble_eq_true rfl) (Nat.le_of_ble_eq_true rfl) h (fun z9 m9 hG h => ?_)
  refine mm_kVV (pc := 12) [.ref 1, .int z9] dX11_duchy_12 kX11_108 rfl sh_4 (Nat.le_of_ble_eq_true rfl) (Nat.le_of_ble_eq_true rfl) h (fun m12 hG h => ?_)
  refine mm_aload_n (pc := 15) (j := 0) dX11_duchy_15 rfl rfl ?_
  refine mm_aload_n (pc := 16) (j := 0) dX11_duchy_16 rfl rfl ?_
  refine mm_getR (pc := 17) (ci := 11) (N := 19) (r := 4) dX11_duchy_17 fX11_35 sh_0 rfl (g_0_8 hG) ?_
  refine mm_getR (pc := 20) (ci := 2) (N := 3) (r := 5) dX11_duchy_20 fX11_112 sh_4 rfl (g_4_0 hG) ?_
  refine mm_kVV (pc := 23) [.ref 5] dX11_duchy_23 kX11_116 rfl sh_0 (Nat.le_of_ble_eq_true rfl) (Nat.le_of_ble_eq_true rfl) h (fun m23 hG h => ?_)
  refine mm_aload_n (pc := 26) (j := 0) dX11_duchy_26 rfl rfl ?_
  refine mm_getI (pc := 27) (ci := 11) (N := 19) dX11_duchy_27 fX11_120 sh_0 rfl ?_
  refine mm_if_eq (pc := 30) (tgt := 39) dX11_duchy_30 (by decide) (fun hc => ?_) (fun hc => ?_)
  · have h := mm_ift hc h
    refine mm_aload_n (pc := 39) (j := 0) dX11_duchy_39 rfl rfl ?_
    refine mm_aload_n (pc := 40) (j := 0) dX11_duchy_40 rfl rfl ?_
    refine mm_getR (pc := 41) (ci := 11) (N := 19) (r := 4) dX11_duchy_41 fX11_35 sh_0 rfl (g_0_8 hG) ?_
    refine mm_aload_n (pc := 44) (j := 0) dX11_duchy_44 rfl rfl ?_
    obtain ⟨q45, he45, hq45, h⟩ := h
    refine mm_getR (pc := 45) (ci := 11) (N := 19) (r := q45) dX11_duchy_45 fX11_57 sh_0 rfl he45 ?_
    refine mm_kVR (pc := 48) [.ref q45] dX11_duchy_48 kX11_123 rfl sh_4 (Nat.le_of_ble_eq_true rfl) (Nat.le_of_ble_eq_true rfl) h (fun z48 m48 hG h => ?_)
    obtain ⟨hq48, h⟩ := h
    refine mm_putR (pc := 51) (ci := 11) (N := 19) dX11_duchy_51 fX11_57 sh_0 (by decide +kernel) rfl ?_
    have hG := mm_G_up (a := 0) (j := 11) (r := some z48) hG (by decide +kernel)
    refine mm_aload_n (pc := 54) (j := 0) dX11_duchy_54 rfl rfl ?_
    refine mm_getR (pc := 55) (ci := 11) (N := 19) (r := 21) dX11_duchy_55 fX11_49 sh_0 rfl (g_0_10 hG) ?_
    refine mm_aload_n (pc := 58) (j := 0) dX11_duchy_58 rfl rfl ?_
    obtain ⟨q59, he59, hq59, h⟩ := h
    refine mm_getR (pc := 59) (ci := 11) (N := 19) (r := q59) dX11_duchy_59 fX11_57 sh_0 rfl he59 ?_
    refine mm_putR (pc := 62) (ci := 1) (N := 5) dX11_duchy_62 fX11_53 sh_21 (by decide +kernel) rfl ?_
    have hG := mm_G_up (a := 21) (j := 0) (r := some q59) hG (by decide +kernel)
    refine mm_aload_n (pc := 65) (j := 0) dX11_duchy_65 rfl rfl ?_
    refine mm_getR (pc := 66) (ci := 11) (N := 19) (r := 37) dX11_duchy_66 fX11_59 sh_0 rfl (g_0_12 hG) ?_
    refine mm_aload_n (pc := 69) (j := 0) dX11_duchy_69 rfl rfl ?_
    obtain ⟨q70, he70, hq70, h⟩ := h
    refine mm_getR (pc := 70) (ci := 11) (N := 19) (r := q70) dX11_duchy_70 fX11_57 sh_0 rfl he70 ?_
    refine mm_kVV (pc := 73) [.ref q70] dX11_duchy_73 kX11_127 rfl sh_37 (Nat.le_of_ble_eq_true rfl) (Nat.le_of_ble_eq_true rfl) h (fun m73 hG h => ?_)
    refine mm_aload_n (pc := 76) (j := 0) dX11_duchy_76 rfl rfl ?_
    refine mm_getR (pc := 77) (ci := 11) (N := 19) (r := 47) dX11_duchy_77 fX11_69 sh_0 rfl (g_0_14 hG) ?_
    refine mm_iconst (pc := 80) (x := 0) dX11_duchy_80 rfl ?_
    refine mm_putI (pc := 81) (ci := 4) (N := 3) dX11_duchy_81 fX11_131 sh_47 (by decide +kernel) rfl rfl rfl ?_
    refine mm_aload_n (pc := 84) (j := 0) dX11_duchy_84 rfl rfl ?_
    refine mm_getR (pc := 85) (ci := 11) (N := 19) (r := 159) dX11_duchy_85 fX11_90 sh_0 rfl (g_0_17 hG) ?_
    refine mm_iconst (pc := 88) (x := 0) dX11_duchy_88 rfl ?_
    refine mm_putI (pc := 89) (ci := 8) (N := 15) dX11_duchy_89 fX11_134 sh_159 (by decide +kernel) rfl rfl rfl ?_
    refine mm_aload_n (pc := 92) (j := 0) dX11_duchy_92 rfl rfl ?_
    refine mm_dup (pc := 93) dX11_duchy_93 rfl ?_
    refine mm_getI (pc := 94) (ci := 11) (N := 19) dX11_duchy_94 fX11_137 sh_0 rfl ?_
    refine mm_iconst (pc := 97) (x := 1) dX11_duchy_97 rfl ?_
    refine mm_iadd (pc := 98) dX11_duchy_98 ?_
    refine mm_putI (pc := 99) (ci := 11) (N := 19) dX11_duchy_99 fX11_137 sh_0 (by decide +kernel) rfl rfl rfl ?_
    refine mm_aload_n (pc := 102) (j := 0) dX11_duchy_102 rfl rfl ?_
    obtain ⟨q103, he103, hq103, h⟩ := h
    refine mm_getR (pc := 103) (ci := 11) (N := 19) (r := q103) dX11_duchy_103 fX11_57 sh_0 rfl he103 ?_
    refine mm_getI (pc := 106) (ci := 7) (N := 11) dX11_duchy_106 fX11_140 (sh_Rl hq103) rfl ?_
    exact mm_iret (pc := 109) dX11_duchy_109 rfl (Nat.le_refl 0) (Nat.le_refl 0) ⟨_, rfl, rfl, hG, h⟩
  · have h := mm_iff hc h
    refine mm_aload_n (pc := 33) (j := 0) dX11_duchy_33 rfl rfl ?_
    refine mm_iconst (pc := 34) (x := 1) dX11_duchy_34 rfl ?_
    refine mm_kVI (pc := 35) [.int 1] dX11_duchy_35 kX11_97 rfl sh_0 (Nat.le_of_ble_eq_true rfl) (Nat.le_of_ble_eq_true rfl) h (fun z35 m35 hG h => ?_)
    exact mm_iret (pc := 38) dX11_duchy_38 rfl (Nat.le_refl 0) (Nat.le_refl 0) ⟨_, rfl, rfl, hG, h⟩
set_option maxRecDepth 100000 in
set_option maxHeartbeats 4000000 in
theorem rX11_fault {d : Nat} {x1 : Int32} {M : mm_M} {K : Int32 → mm_M → Prop} (hG : mm_G M.2.2) (h : if x1 = 0 then (K (M.1 0 3) M) else (if x1 = 1 then (K (M.1 0 4) M) else (K (-1) M))) : mm_CI mX11_fault d [.ref 0, .int x1] M K := by
  show mm_W mX11_fault d 0 0 0 [(0, .ref 0), (1, .int x1)] [] mm_SH M 0 0 (mm_PI K)
  refine mm_iload_n (pc := 0) (j := 1) dX11_fault_0 rfl rfl ?_
  refine mm_if_ne (pc := 1) (tgt := 9) dX11_fault_1 (by decide) (fun hc => ?_) (fun hc => ?_)
  · have h := mm_iff hc h
    refine mm_iload_n (pc := 9) (j := 1) dX11_fault_9 rfl rfl ?_
    refine mm_iconst (pc := 10) (x := 1) dX11_fault_10 rfl ?_
    refine mm_icmp_ne (pc := 11) (tgt := 21) dX11_fault_11 (by decide) (fun hc => ?_) (fun hc => ?_)
    · have h := mm_iff hc h
      refine mm_iconst (pc := 21) (x := (-1)) dX11_fault_21 rfl ?_
      exact mm_iret (pc := 22) dX11_fault_22 rfl (Nat.le_refl 0) (Nat.le_refl 0) ⟨_, rfl, rfl, hG, h⟩
    · have h := mm_ift hc h
      refine mm_aload_n (pc := 14) (j := 0) dX11_fault_14 rfl rfl ?_
      refine mm_getI (pc := 15) (ci := 11) (N := 19) dX11_fault_15 fX11_16 sh_0 rfl ?_
      refine mm_goto (pc := 18) (tgt := 22) dX11_fault_18 (by decide) ?_
      exact mm_iret (pc := 22) dX11_fault_22 rfl (Nat.le_refl 0) (Nat.le_refl 0) ⟨_, rfl, rfl, hG, h⟩
  · have h := mm_ift hc h
    refine mm_aload_n (pc := 4) (j := 0) dX11_fault_4 rfl rfl ?_
    refine mm_getI (pc := 5) (ci := 11) (N := 19) dX11_fault_5 fX11_120 sh_0 rfl ?_
    exact mm_iret (pc := 8) dX11_fault_8 rfl (Nat.le_refl 0) (Nat.le_refl 0) ⟨_, rfl, rfl, hG, h⟩
set_option maxRecDepth 100000 in
set_option maxHeartbeats 4000000 in
theorem rX11_has {d : Nat} {x1 : Int32} {M : mm_M} {K : Int32 → mm_M → Prop} (hG : mm_G M.2.2) (h : if x1 = 0 then (∃ q53 : Nat, M.2.2 0 11 = some q53 ∧ q53 ∈ mm_Rls ∧ K (M.1 q53 1) M) else (if x1 = 1 then (∃ q61 : Nat, M.2.2 0 11 = some q61 ∧ q61 ∈ mm_Rls ∧ K (M.1 q61 2) M) else (if x1 = 2 then (K (M.1 37 0) M) else (if x1 = 3 then (mm_CI mJ6_bitCount_0f7a4 d [.int (M.1 37 1)] M (fun z83 m83 => K z83 m83)) else (if x1 = 4 then (mm_CI mX9_countFeuds d [.ref 37] M (fun z91 m91 => K z91 m91)) else (if x1 = 5 then (mm_CI mX9_flourTogether d [.ref 37] M (fun z99 m99 => K z99 m99)) else (if x1 = 6 then (mm_CI mX9_toldLoaves d [.ref 37] M (fun z107 m107 => K z107 m107)) else (if x1 = 7 then (K (M.1 159 0) M) else (if x1 = 8 then (K (M.1 47 2) M) else (K (-1) M)))))))))) : mm_CI mX11_has (d + 1) [.ref 0, .int x1] M K := by
  show mm_W mX11_has (d + 1) 0 0 0 [(0, .ref 0), (1, .int x1)] [] mm_SH M 0 0 (mm_PI K)
  refine mm_iload_n (pc := 0) (j := 1) dX11_has_0 rfl rfl ?_
  by_cases hs1_0 : x1 = 0
  · have h := mm_ift hs1_0 h
    refine mm_tableIn (pc := 1) (off := 51) (tgt := 52) dX11_has_1 (by rw [hs1_0]; decide) (by rw [hs1_0]; decide) (by rw [hs1_0]; rfl) (by decide) ?_
    refine mm_aload_n (pc := 52) (j := 0) dX11_has_52 rfl rfl ?_
    obtain ⟨q53, he53, hq53, h⟩ := h
    refine mm_getR (pc := 53) (ci := 11) (N := 19) (r := q53) dX11_has_53 fX11_57 sh_0 rfl he53 ?_
    refine mm_getI (pc := 56) (ci := 7) (N := 11) dX11_has_56 fX11_145 (sh_Rl hq53) rfl ?_
    exact mm_iret (pc := 59) dX11_has_59 rfl (Nat.le_refl 0) (Nat.le_refl 0) ⟨_, rfl, rfl, hG, h⟩
  · have h := mm_iff hs1_0 h
    by_cases hs1_1 : x1 = 1
    · have h := mm_ift hs1_1 h
      refine mm_tableIn (pc := 1) (off := 59) (tgt := 60) dX11_has_1 (by rw [hs1_1]; decide) (by rw [hs1_1]; decide) (by rw [hs1_1]; rfl) (by decide) ?_
      refine mm_aload_n (pc := 60) (j := 0) dX11_has_60 rfl rfl ?_
      obtain ⟨q61, he61, hq61, h⟩ := h
      refine mm_getR (pc := 61) (ci := 11) (N := 19) (r := q61) dX11_has_61 fX11_57 sh_0 rfl he61 ?_
      refine mm_getI (pc := 64) (ci := 7) (N := 11) dX11_has_64 fX11_148 (sh_Rl hq61) rfl ?_
      exact mm_iret (pc := 67) dX11_has_67 rfl (Nat.le_refl 0) (Nat.le_refl 0) ⟨_, rfl, rfl, hG, h⟩
    · have h := mm_iff hs1_1 h
      by_cases hs1_2 : x1 = 2
      · have h := mm_ift hs1_2 h
        refine mm_tableIn (pc := 1) (off := 67) (tgt := 68) dX11_has_1 (by rw [hs1_2]; decide) (by rw [hs1_2]; decide) (by rw [hs1_2]; rfl) (by decide) ?_
        refine mm_aload_n (pc := 68) (j := 0) dX11_has_68 rfl rfl ?_
        refine mm_getR (pc := 69) (ci := 11) (N := 19) (r := 37) dX11_has_69 fX11_59 sh_0 rfl (g_0_12 hG) ?_
        refine mm_getI (pc := 72) (ci := 9) (N := 7) dX11_has_72 fX11_151 sh_37 rfl ?_
        exact mm_iret (pc := 75) dX11_has_75 rfl (Nat.le_refl 0) (Nat.le_refl 0) ⟨_, rfl, rfl, hG, h⟩
      · have h := mm_iff hs1_2 h
        by_cases hs1_3 : x1 = 3
        · have h := mm_ift hs1_3 h
          refine mm_tableIn (pc := 1) (off := 75) (tgt := 76) dX11_has_1 (by rw [hs1_3]; decide) (by rw [hs1_3]; decide) (by rw [hs1_3]; rfl) (by decide) ?_
          refine mm_aload_n (pc := 76) (j := 0) dX11_has_76 rfl rfl ?_
          refine mm_getR (pc := 77) (ci := 11) (N := 19) (r := 37) dX11_has_77 fX11_59 sh_0 rfl (g_0_12 hG) ?_
          refine mm_getI (pc := 80) (ci := 9) (N := 7) dX11_has_80 fX11_154 sh_37 rfl ?_
          refine mm_kSI (pc := 83) [.int (M.1 37 1)] dX11_has_83 kX11_157 rfl (Nat.le_of_ble_eq_true rfl) (Nat.le_of_ble_eq_true rfl) h (fun z83 m83 hG h => ?_)
          exact mm_iret (pc := 86) dX11_has_86 rfl (Nat.le_refl 0) (Nat.le_refl 0) ⟨_, rfl, rfl, hG, h⟩
        · have h := mm_iff hs1_3 h
          by_cases hs1_4 : x1 = 4
          · have h := mm_ift hs1_4 h
            refine mm_tableIn (pc := 1) (off := 86) (tgt := 87) dX11_has_1 (by rw [hs1_4]; decide) (by rw [hs1_4]; decide) (by rw [hs1_4]; rfl) (by decide) ?_
            refine mm_aload_n (pc := 87) (j := 0) dX11_has_87 rfl rfl ?_
            refine mm_getR (pc := 88) (ci := 11) (N := 19) (r := 37) dX11_has_88 fX11_59 sh_0 rfl (g_0_12 hG) ?_
            refine mm_kVI (pc := 91) [] dX11_has_91 kX11_162 rfl sh_37 (Nat.le_of_ble_eq_true rfl) (Nat.le_of_ble_eq_true rfl) h (fun z91 m91 hG h => ?_)
            exact mm_iret (pc := 94) dX11_has_94 rfl (Nat.le_refl 0) (Nat.le_refl 0) ⟨_, rfl, rfl, hG, h⟩
          · have h := mm_iff hs1_4 h
            by_cases hs1_5 : x1 = 5
            · have h := mm_ift hs1_5 h
              refine mm_tableIn (pc := 1) (off := 94) (tgt := 95) dX11_has_1 (by rw [hs1_5]; decide) (by rw [hs1_5]; decide) (by rw [hs1_5]; rfl) (by decide) ?_
              refine mm_aload_n (pc := 95) (j := 0) dX11_has_95 rfl rfl ?_
              refine mm_getR (pc := 96) (ci := 11) (N := 19) (r := 37) dX11_has_96 fX11_59 sh_0 rfl (g_0_12 hG) ?_
              refine mm_kVI (pc := 99) [] dX11_has_99 kX11_165 rfl sh_37 (Nat.le_of_ble_eq_true rfl) (Nat.le_of_ble_eq_true rfl) h (fun z99 m99 hG h => ?_)
              exact mm_iret (pc := 102) dX11_has_102 rfl (Nat.le_refl 0) (Nat.le_refl 0) ⟨_, rfl, rfl, hG, h⟩
            · have h := mm_iff hs1_5 h
              by_cases hs1_6 : x1 = 6
              · have h := mm_ift hs1_6 h
                refine mm_tableIn (pc := 1) (off := 102) (tgt := 103) dX11_has_1 (by rw [hs1_6]; decide) (by rw [hs1_6]; decide) (by rw [hs1_6]; rfl) (by decide) ?_
                refine mm_aload_n (pc := 103) (j := 0) dX11_has_103 rfl rfl ?_
                refine mm_getR (pc := 104) (ci := 11) (N := 19) (r := 37) dX11_has_104 fX11_59 sh_0 rfl (g_0_12 hG) ?_
                refine mm_kVI (pc := 107) [] dX11_has_107 kX11_168 rfl sh_37 (Nat.le_of_ble_eq_true rfl) (Nat.le_of_ble_eq_true rfl) h (fun z107 m107 hG h => ?_)
                exact mm_iret (pc := 110) dX11_has_110 rfl (Nat.le_refl 0) (Nat.le_refl 0) ⟨_, rfl, rfl, hG, h⟩
              · have h := mm_iff hs1_6 h
                by_cases hs1_7 : x1 = 7
                · have h := mm_ift hs1_7 h
                  refine mm_tableIn (pc := 1) (off := 110) (tgt := 111) dX11_has_1 (by rw [hs1_7]; decide) (by rw [hs1_7]; decide) (by rw [hs1_7]; rfl) (by decide) ?_
                  refine mm_aload_n (pc := 111) (j := 0) dX11_has_111 rfl rfl ?_
                  refine mm_getR (pc := 112) (ci := 11) (N := 19) (r := 159) dX11_has_112 fX11_90 sh_0 rfl (g_0_17 hG) ?_
                  refine mm_getI (pc := 115) (ci := 8) (N := 15) dX11_has_115 fX11_134 sh_159 rfl ?_
                  exact mm_iret (pc := 118) dX11_has_118 rfl (Nat.le_refl 0) (Nat.le_refl 0) ⟨_, rfl, rfl, hG, h⟩
                · have h := mm_iff hs1_7 h
                  by_cases hs1_8 : x1 = 8
                  · have h := mm_ift hs1_8 h
                    refine mm_tableIn (pc := 1) (off := 118) (tgt := 119) dX11_has_1 (by rw [hs1_8]; decide) (by rw [hs1_8]; decide) (by rw [hs1_8]; rfl) (by decide) ?_
                    refine mm_aload_n (pc := 119) (j := 0) dX11_has_119 rfl rfl ?_
                    refine mm_getR (pc := 120) (ci := 11) (N := 19) (r := 47) dX11_has_120 fX11_69 sh_0 rfl (g_0_14 hG) ?_
                    refine mm_getI (pc := 123) (ci := 4) (N := 3) dX11_has_123 fX11_131 sh_47 rfl ?_
                    exact mm_iret (pc := 126) dX11_has_126 rfl (Nat.le_refl 0) (Nat.le_refl 0) ⟨_, rfl, rfl, hG, h⟩
                  · have h := mm_iff hs1_8 h
                    have ht1_0 := lv_neT hs1_0 (show (0 : Int32).toInt = 0 from rfl)
                    have ht1_1 := lv_neT hs1_1 (show (1 : Int32).toInt = 1 from rfl)
                    have ht1_2 := lv_neT hs1_2 (show (2 : Int32).toInt = 2 from rfl)
                    have ht1_3 := lv_neT hs1_3 (show (3 : Int32).toInt = 3 from rfl)
                    have ht1_4 := lv_neT hs1_4 (show (4 : Int32).toInt = 4 from rfl)
                    have ht1_5 := lv_neT hs1_5 (show (5 : Int32).toInt = 5 from rfl)
                    have ht1_6 := lv_neT hs1_6 (show (6 : Int32).toInt = 6 from rfl)
                    have ht1_7 := lv_neT hs1_7 (show (7 : Int32).toInt = 7 from rfl)
                    have ht1_8 := lv_neT hs1_8 (show (8 : Int32).toInt = 8 from rfl)
                    refine mm_tableOut (pc := 1) (tgt := 127) dX11_has_1 (by omega) (by decide) ?_
                    refine mm_iconst (pc := 127) (x := (-1)) dX11_has_127 rfl ?_
                    exact mm_iret (pc := 128) dX11_has_128 rfl (Nat.le_refl 0) (Nat.le_refl 0) ⟨_, rfl, rfl, hG, h⟩
set_option maxRecDepth 100000 in
set_option maxHeartbeats 4000000 in
theorem rX11_letter {d : Nat} {x1 : Int32} {x2 : Int32} {M : mm_M} {K : Int32 → mm_M → Prop} (hG : mm_G M.2.2) (h : mm_CI mX11_isHouse d [.ref 0, .int x1] M (fun z2 m2 => if z2 = 0 then (K (-1) m2) else (if x2 < 0 then (K (-1) m2) else (if x2 < 6 then (∃ q21 : Nat, m2.2.2 0 11 = some q21 ∧ q21 ∈ mm_Rls ∧ vp_in ((x1 * 6) + x2) 42 ∧ K (m2.1 (q21 + 1) ((x1 * 6) + x2).toNatClampNeg) m2) else (K (-1) m2))))) : mm_CI mX11_letter (d + 1) [.ref 0, .int x1, .int x2] M K := by
  show mm_W mX11_letter (d + 1) 0 0 0 [(0, .ref 0), (1, .int x1), (2, .int x2)] [] mm_SH M 0 0 (mm_PI K)
  refine mm_aload_n (pc := 0) (j := 0) dX11_letter_0 rfl rfl ?_
  refine mm_iload_n (pc := 1) (j := 1) dX11_letter_1 rfl rfl ?_
  refine mm_kVI (pc := 2) [.int x1] dX11_letter_2 kX11_171 rfl sh_0 (Nat.le_of_ble_eq_true rfl) (Nat.le_of_ble_eq_true rfl) h (fun z2 m2 hG h => ?_)
  refine mm_if_eq (pc := 5) (tgt := 18) dX11_letter_5 (by decide) (fun hc => ?_) (fun hc => ?_)
  · have h := mm_ift hc h
    refine mm_iconst (pc := 18) (x := (-1)) dX11_letter_18 rfl ?_
    exact mm_iret (pc := 19) dX11_letter_19 rfl (Nat.le_refl 0) (Nat.le_refl 0) ⟨_, rfl, rfl, hG, h⟩
  · have h := mm_iff hc h
    refine mm_iload_n (pc := 8) (j := 2) dX11_letter_8 rfl rfl ?_
    refine mm_if_lt (pc := 9) (tgt := 18) dX11_letter_9 (by decide) (fun hc => ?_) (fun hc => ?_)
    · have h := mm_ift hc h
      refine mm_iconst (pc := 18) (x := (-1)) dX11_letter_18 rfl ?_
      exact mm_iret (pc := 19) dX11_letter_19 rfl (Nat.le_refl 0) (Nat.le_refl 0) ⟨_, rfl, rfl, hG, h⟩
    · have h := mm_iff hc h
      refine mm_iload_n (pc := 12) (j := 2) dX11_letter_12 rfl rfl ?_
      refine mm_bipush (pc := 13) (x := 6) dX11_letter_13 rfl ?_
      refine mm_icmp_lt (pc := 15) (tgt := 20) dX11_letter_15 (by decide) (fun hc => ?_) (fun hc => ?_)
      · have h := mm_ift hc h
        refine mm_aload_n (pc := 20) (j := 0) dX11_letter_20 rfl rfl ?_
        obtain ⟨q21, he21, hq21, h⟩ := h
        refine mm_getR (pc := 21) (ci := 11) (N := 19) (r := q21) dX11_letter_21 fX11_57 sh_0 rfl he21 ?_
        refine mm_getR (pc := 24) (ci := 7) (N := 11) (r := q21 + 1) dX11_letter_24 fX11_175 (sh_Rl hq21) rfl (g_Rl_4 hG hq21) ?_
        refine mm_iload_n (pc := 27) (j := 1) dX11_letter_27 rfl rfl ?_
        refine mm_bipush (pc := 28) (x := 6) dX11_letter_28 rfl ?_
        refine mm_imul (pc := 30) dX11_letter_30 ?_
        refine mm_iload_n (pc := 31) (j := 2) dX11_letter_31 rfl rfl ?_
        refine mm_iadd (pc := 32) dX11_letter_32 ?_
        obtain ⟨hi33, h⟩ := h
        refine mm_iaload (pc := 33) (N := 42) dX11_letter_33 (sh_Rl_1 hq21) hi33 ?_
        exact mm_iret (pc := 34) dX11_letter_34 rfl (Nat.le_refl 0) (Nat.le_refl 0) ⟨_, rfl, rfl, hG, h⟩
      · have h := mm_iff hc h
        refine mm_iconst (pc := 18) (x := (-1)) dX11_letter_18 rfl ?_
        exact mm_iret (pc := 19) dX11_letter_19 rfl (Nat.le_refl 0) (Nat.le_refl 0) ⟨_, rfl, rfl, hG, h⟩
set_option maxRecDepth 100000 in
set_option maxHeartbeats 4000000 in
theorem rX11_house {d : Nat} {x1 : Int32} {x2 : Int32} {M : mm_M} {K : Int32 → mm_M → Prop} (hG : mm_G M.2.2) (h : mm_CI mX11_isHouse d [.ref 0, .int x1] M (fun z2 m2 => if z2 = 0 then (K (-1) m2) else (if x2 = 0 then (vp_in x1 7 ∧ K (m2.1 38 x1.toNatClampNeg) m2) else (if x2 = 1 then (∃ q55 : Nat, m2.2.2 0 11 = some q55 ∧ q55 ∈ mm_Rls ∧ vp_in x1 7 ∧ K (m2.1 (q55 + 3) x1.toNatClampNeg) m2) else (if x2 = 2 then (vp_in x1 7 ∧ K (m2.1 39 x1.toNatClampNeg) m2) else (if x2 = 3 then (mm_CI mX9_isThere d [.ref 37, .int x1] m2 (fun z79 m79 => if z79 = 0 then (K 0 m79) else (K 1 m79))) else (if x2 = 4 then (mm_CI mX9_countEnemies d [.ref 37, .int x1] m2 (fun z96 m96 => K z96 m96)) else (K (-1) m2)))))))) : mm_CI mX11_house (d + 1) [.ref 0, .int x1, .int x2] M K := by
  show mm_W mX11_house (d + 1) 0 0 0 [(0, .ref 0), (1, .int x1), (2, .int x2)] [] mm_SH M 0 0 (mm_PI K)
  refine mm_aload_n (pc := 0) (j := 0) dX11_house_0 rfl rfl ?_
  refine mm_iload_n (pc := 1) (j := 1) dX11_house_1 rfl rfl ?_
  refine mm_kVI (pc := 2) [.int x1] dX11_house_2 kX11_171 rfl sh_0 (Nat.le_of_ble_eq_true rfl) (Nat.le_of_ble_eq_true rfl) h (fun z2 m2 hG h => ?_)
  refine mm_if_ne (pc := 5) (tgt := 10) dX11_house_5 (by decide) (fun hc => ?_) (fun hc => ?_)
  · have h := mm_iff hc h
    refine mm_iload_n (pc := 10) (j := 2) dX11_house_10 rfl rfl ?_
    by_cases hs11_0 : x2 = 0
    · have h := mm_ift hs11_0 h
      refine mm_tableIn (pc := 11) (off := 33) (tgt := 44) dX11_house_11 (by rw [hs11_0]; decide) (by rw [hs11_0]; decide) (by rw [hs11_0]; rfl) (by decide) ?_
      refine mm_aload_n (pc := 44) (j := 0) dX11_house_44 rfl rfl ?_
      refine mm_getR (pc := 45) (ci := 11) (N := 19) (r := 37) dX11_house_45 fX11_59 sh_0 rfl (g_0_12 hG) ?_
      refine mm_getR (pc := 48) (ci := 9) (N := 7) (r := 38) dX11_house_48 fX11_178 sh_37 rfl (g_37_3 hG) ?_
      refine mm_iload_n (pc := 51) (j := 1) dX11_house_51 rfl rfl ?_
      obtain ⟨hi52, h⟩ := h
      refine mm_iaload (pc := 52) (N := 7) dX11_house_52 sh_38 hi52 ?_
      exact mm_iret (pc := 53) dX11_house_53 rfl (Nat.le_refl 0) (Nat.le_refl 0) ⟨_, rfl, rfl, hG, h⟩
    · have h := mm_iff hs11_0 h
      by_cases hs11_1 : x2 = 1
      · have h := mm_ift hs11_1 h
        refine mm_tableIn (pc := 11) (off := 43) (tgt := 54) dX11_house_11 (by rw [hs11_1]; decide) (by rw [hs11_1]; decide) (by rw [hs11_1]; rfl) (by decide) ?_
        refine mm_aload_n (pc := 54) (j := 0) dX11_house_54 rfl rfl ?_
        obtain ⟨q55, he55, hq55, h⟩ := h
        refine mm_getR (pc := 55) (ci := 11) (N := 19) (r := q55) dX11_house_55 fX11_57 sh_0 rfl he55 ?_
        refine mm_getR (pc := 58) (ci := 7) (N := 11) (r := q55 + 3) dX11_house_58 fX11_181 (sh_Rl hq55) rfl (g_Rl_6 hG hq55) ?_
        refine mm_iload_n (pc := 61) (j := 1) dX11_house_61 rfl rfl ?_
        obtain ⟨hi62, h⟩ := h
        refine mm_iaload (pc := 62) (N := 7) dX11_house_62 (sh_Rl_3 hq55) hi62 ?_
        exact mm_iret (pc := 63) dX11_house_63 rfl (Nat.le_refl 0) (Nat.le_refl 0) ⟨_, rfl, rfl, hG, h⟩
      · have h := mm_iff hs11_1 h
        by_cases hs11_2 : x2 = 2
        · have h := mm_ift hs11_2 h
          refine mm_tableIn (pc := 11) (off := 53) (tgt := 64) dX11_house_11 (by rw [hs11_2]; decide) (by rw [hs11_2]; decide) (by rw [hs11_2]; rfl) (by decide) ?_
          refine mm_aload_n (pc := 64) (j := 0) dX11_house_64 rfl rfl ?_
          refine mm_getR (pc := 65) (ci := 11) (N := 19) (r := 37) dX11_house_65 fX11_59 sh_0 rfl (g_0_12 hG) ?_
          refine mm_getR (pc := 68) (ci := 9) (N := 7) (r := 39) dX11_house_68 fX11_184 sh_37 rfl (g_37_4 hG) ?_
          refine mm_iload_n (pc := 71) (j := 1) dX11_house_71 rfl rfl ?_
          obtain ⟨hi72, h⟩ := h
          refine mm_iaload (pc := 72) (N := 7) dX11_house_72 sh_39 hi72 ?_
          exact mm_iret (pc := 73) dX11_house_73 rfl (Nat.le_refl 0) (Nat.le_refl 0) ⟨_, rfl, rfl, hG, h⟩
        · have h := mm_iff hs11_2 h
          by_cases hs11_3 : x2 = 3
          · have h := mm_ift hs11_3 h
            refine mm_tableIn (pc := 11) (off := 63) (tgt := 74) dX11_house_11 (by rw [hs11_3]; decide) (by rw [hs11_3]; decide) (by rw [hs11_3]; rfl) (by decide) ?_
            refine mm_aload_n (pc := 74) (j := 0) dX11_house_74 rfl rfl ?_
            refine mm_getR (pc := 75) (ci := 11) (N := 19) (r := 37) dX11_house_75 fX11_59 sh_0 rfl (g_0_12 hG) ?_
            refine mm_iload_n (pc := 78) (j := 1) dX11_house_78 rfl rfl ?_
            refine mm_kVI (pc := 79) [.int x1] dX11_house_79 kX11_187 rfl sh_37 (Nat.le_of_ble_eq_true rfl) (Nat.le_of_ble_eq_true rfl) h (fun z79 m79 hG h => ?_)
            refine mm_if_eq (pc := 82) (tgt := 89) dX11_house_82 (by decide) (fun hc => ?_) (fun hc => ?_)
            · have h := mm_ift hc h
              refine mm_iconst (pc := 89) (x := 0) dX11_house_89 rfl ?_
              exact mm_iret (pc := 90) dX11_house_90 rfl (Nat.le_refl 0) (Nat.le_refl 0) ⟨_, rfl, rfl, hG, h⟩
            · have h := mm_iff hc h
              refine mm_iconst (pc := 85) (x := 1) dX11_house_85 rfl ?_
              refine mm_goto (pc := 86) (tgt := 90) dX11_house_86 (by decide) ?_
              exact mm_iret (pc := 90) dX11_house_90 rfl (Nat.le_refl 0) (Nat.le_refl 0) ⟨_, rfl, rfl, hG, h⟩
          · have h := mm_iff hs11_3 h
            by_cases hs11_4 : x2 = 4
            · have h := mm_ift hs11_4 h
              refine mm_tableIn (pc := 11) (off := 80) (tgt := 91) dX11_house_11 (by rw [hs11_4]; decide) (by rw [hs11_4]; decide) (by rw [hs11_4]; rfl) (by decide) ?_
              refine mm_aload_n (pc := 91) (j := 0) dX11_house_91 rfl rfl ?_
              refine mm_getR (pc := 92) (ci := 11) (N := 19) (r := 37) dX11_house_92 fX11_59 sh_0 rfl (g_0_12 hG) ?_
              refine mm_iload_n (pc := 95) (j := 1) dX11_house_95 rfl rfl ?_
              refine mm_kVI (pc := 96) [.int x1] dX11_house_96 kX11_190 rfl sh_37 (Nat.le_of_ble_eq_true rfl) (Nat.le_of_ble_eq_true rfl) h (fun z96 m96 hG h => ?_)
              exact mm_iret (pc := 99) dX11_house_99 rfl (Nat.le_refl 0) (Nat.le_refl 0) ⟨_, rfl, rfl, hG, h⟩
            · have h := mm_iff hs11_4 h
              have ht11_0 := lv_neT hs11_0 (show (0 : Int32).toInt = 0 from rfl)
              have ht11_1 := lv_neT hs11_1 (show (1 : Int32).toInt = 1 from rfl)
              have ht11_2 := lv_neT hs11_2 (show (2 : Int32).toInt = 2 from rfl)
              have ht11_3 := lv_neT hs11_3 (show (3 : Int32).toInt = 3 from rfl)
              have ht11_4 := lv_neT hs11_4 (show (4 : Int32).toInt = 4 from rfl)
              refine mm_tableOut (pc := 11) (tgt := 100) dX11_house_11 (by omega) (by decide) ?_
              refine mm_iconst (pc := 100) (x := (-1)) dX11_house_100 rfl ?_
              exact mm_iret (pc := 101) dX11_house_101 rfl (Nat.le_refl 0) (Nat.le_refl 0) ⟨_, rfl, rfl, hG, h⟩
  · have h := mm_ift hc h
    refine mm_iconst (pc := 8) (x := (-1)) dX11_house_8 rfl ?_
    exact mm_iret (pc := 9) dX11_house_9 rfl (Nat.le_refl 0) (Nat.le_refl 0) ⟨_, rfl, rfl, hG, h⟩
set_option maxRecDepth 100000 in
set_option maxHeartbeats 4000000 in
theorem rX11_hate {d : Nat} {x1 : Int32} {x2 : Int32} {M : mm_M} {K : Int32 → mm_M → Prop} (hG : mm_G M.2.2) (h : mm_CI mX11_arePair d [.ref 0, .int x1, .int x2] M (fun z3 m3 => if z3 = 0 then (K (-1) m3) else (vp_in ((8 * x1) + x2) 64 ∧ K (m3.1 40 ((8 * x1) + x2).toNatClampNeg) m3))) : mm_CI mX11_hate (d + 1) [.ref 0, .int x1, .int x2] M K := by
  show mm_W mX11_hate (d + 1) 0 0 0 [(0, .ref 0), (1, .int x1), (2, .int x2)] [] mm_SH M 0 0 (mm_PI K)
  refine mm_aload_n (pc := 0) (j := 0) dX11_hate_0 rfl rfl ?_
  refine mm_iload_n (pc := 1) (j := 1) dX11_hate_1 rfl rfl ?_
  refine mm_iload_n (pc := 2) (j := 2) dX11_hate_2 rfl rfl ?_
  refine mm_kVI (pc := 3) [.int x1, .int x2] dX11_hate_3 kX11_193 rfl sh_0 (Nat.le_of_ble_eq_true rfl) (Nat.le_of_ble_eq_true rfl) h (fun z3 m3 hG h => ?_)
  refine mm_if_eq (pc := 6) (tgt := 26) dX11_hate_6 (by decide) (fun hc => ?_) (fun hc => ?_)
  · have h := mm_ift hc h
    refine mm_iconst (pc := 26) (x := (-1)) dX11_hate_26 rfl ?_
    exact mm_iret (pc := 27) dX11_hate_27 rfl (Nat.le_refl 0) (Nat.le_refl 0) ⟨_, rfl, rfl, hG, h⟩
  · have h := mm_iff hc h
    refine mm_aload_n (pc := 9) (j := 0) dX11_hate_9 rfl rfl ?_
    refine mm_getR (pc := 10) (ci := 11) (N := 19) (r := 37) dX11_hate_10 fX11_59 sh_0 rfl (g_0_12 hG) ?_
    refine mm_getR (pc := 13) (ci := 9) (N := 7) (r := 40) dX11_hate_13 fX11_197 sh_37 rfl (g_37_5 hG) ?_
    refine mm_bipush (pc := 16) (x := 8) dX11_hate_16 rfl ?_
    refine mm_iload_n (pc := 18) (j := 1) dX11_hate_18 rfl rfl ?_
    refine mm_imul (pc := 19) dX11_hate_19 ?_
    refine mm_iload_n (pc := 20) (j := 2) dX11_hate_20 rfl rfl ?_
    refine mm_iadd (pc := 21) dX11_hate_21 ?_
    obtain ⟨hi22, h⟩ := h
    refine mm_iaload (pc := 22) (N := 64) dX11_hate_22 sh_40 hi22 ?_
    refine mm_goto (pc := 23) (tgt := 27) dX11_hate_23 (by decide) ?_
    exact mm_iret (pc := 27) dX11_hate_27 rfl (Nat.le_refl 0) (Nat.le_refl 0) ⟨_, rfl, rfl, hG, h⟩
set_option maxRecDepth 100000 in
set_option maxHeartbeats 4000000 in
theorem rX11_baker {d : Nat} {x1 : Int32} {M : mm_M} {K : Int32 → mm_M → Prop} (hG : mm_G M.2.2) (h : mm_CI mX11_isHouse d [.ref 0, .int x1] M (fun z2 m2 => if z2 = 0 then (K (-1) m2) else (mm_CV mX9_copyFrom d [.ref 42, .ref 37] m2 (fun m18 => mm_CV mX1_serve d [.ref 21, .ref 42, .int 0, .int 0] m18 (fun m31 => vp_in x1 7 ∧ K (m31.1 35 x1.toNatClampNeg) m31))))) : mm_CI mX11_baker (d + 1) [.ref 0, .int x1] M K := by
  show mm_W mX11_baker (d + 1) 0 0 0 [(0, .ref 0), (1, .int x1)] [] mm_SH M 0 0 (mm_PI K)
  refine mm_aload_n (pc := 0) (j := 0) dX11_baker_0 rfl rfl ?_
  refine mm_iload_n (pc := 1) (j := 1) dX11_baker_1 rfl rfl ?_
  refine mm_kVI (pc := 2) [.int x1] dX11_baker_2 kX11_171 rfl sh_0 (Nat.le_of_ble_eq_true rfl) (Nat.le_of_ble_eq_true rfl) h (fun z2 m2 hG h => ?_)
  refine mm_if_ne (pc := 5) (tgt := 10) dX11_baker_5 (by decide) (fun hc => ?_) (fun hc => ?_)
  · have h := mm_iff hc h
    refine mm_aload_n (pc := 10) (j := 0) dX11_baker_10 rfl rfl ?_
    refine mm_getR (pc := 11) (ci := 11) (N := 19) (r := 42) dX11_baker_11 fX11_63 sh_0 rfl (g_0_13 hG) ?_
    refine mm_aload_n (pc := 14) (j := 0) dX11_baker_14 rfl rfl ?_
    refine mm_getR (pc := 15) (ci := 11) (N := 19) (r := 37) dX11_baker_15 fX11_59 sh_0 rfl (g_0_12 hG) ?_
    refine mm_kVV (pc := 18) [.ref 37] dX11_baker_18 kX11_200 rfl sh_42 (Nat.le_of_ble_eq_true rfl) (Nat.le_of_ble_eq_true rfl) h (fun m18 hG h => ?_)
    refine mm_aload_n (pc := 21) (j := 0) dX11_baker_21 rfl rfl ?_
    refine mm_getR (pc := 22) (ci := 11) (N := 19) (r := 21) dX11_baker_22 fX11_49 sh_0 rfl (g_0_10 hG) ?_
    refine mm_aload_n (pc := 25) (j := 0) dX11_baker_25 rfl rfl ?_
    refine mm_getR (pc := 26) (ci := 11) (N := 19) (r := 42) dX11_baker_26 fX11_63 sh_0 rfl (g_0_13 hG) ?_
    refine mm_iconst (pc := 29) (x := 0) dX11_baker_29 rfl ?_
    refine mm_iconst (pc := 30) (x := 0) dX11_baker_30 rfl ?_
    refine mm_kVV (pc := 31) [.ref 42, .int 0, .int 0] dX11_baker_31 kX11_204 rfl sh_21 (Nat.le_of_ble_eq_true rfl) (Nat.le_of_ble_eq_true rfl) h (fun m31 hG h => ?_)
    refine mm_aload_n (pc := 34) (j := 0) dX11_baker_34 rfl rfl ?_
    refine mm_getR (pc := 35) (ci := 11) (N := 19) (r := 21) dX11_baker_35 fX11_49 sh_0 rfl (g_0_10 hG) ?_
    refine mm_getR (pc := 38) (ci := 1) (N := 5) (r := 35) dX11_baker_38 fX11_208 sh_21 rfl (g_21_2 hG) ?_
    refine mm_iload_n (pc := 41) (j := 1) dX11_baker_41 rfl rfl ?_
    obtain ⟨hi42, h⟩ := h
    refine mm_iaload (pc := 42) (N := 7) dX11_baker_42 sh_35 hi42 ?_
    exact mm_iret (pc := 43) dX11_baker_43 rfl (Nat.le_refl 0) (Nat.le_refl 0) ⟨_, rfl, rfl, hG, h⟩
  · have h := mm_ift hc h
    refine mm_iconst (pc := 8) (x := (-1)) dX11_baker_8 rfl ?_
    exact mm_iret (pc := 9) dX11_baker_9 rfl (Nat.le_refl 0) (Nat.le_refl 0) ⟨_, rfl, rfl, hG, h⟩
set_option maxRecDepth 100000 in
set_option maxHeartbeats 4000000 in
theorem rX11_taste {d : Nat} {x1 : Int32} {x2 : Int32} {M : mm_M} {K : Int32 → mm_M → Prop} (hG : mm_G M.2.2) (h : mm_CI mX11_arePair d [.ref 0, .int x1, .int x2] M (fun z3 m3 => if z3 = 0 then (K (-1) m3) else (vp_in ((8 * x1) + x2) 64 ∧ if (m3.1 40 ((8 * x1) + x2).toNatClampNeg) = 0 then (K (-1) m3) else (mm_CI mX1_tasteOfLoaf d [.ref 21, .ref 37, .int x1, .int x2] m3 (fun z38 m38 => K z38 m38))))) : mm_CI mX11_taste (d + 1) [.ref 0, .int x1, .int x2] M K := by
  show mm_W mX11_taste (d + 1) 0 0 0 [(0, .ref 0), (1, .int x1), (2, .int x2)] [] mm_SH M 0 0 (mm_PI K)
  refine mm_aload_n (pc := 0) (j := 0) dX11_taste_0 rfl rfl ?_
  refine mm_iload_n (pc := 1) (j := 1) dX11_taste_1 rfl rfl ?_
  refine mm_iload_n (pc := 2) (j := 2) dX11_taste_2 rfl rfl ?_
  refine mm_kVI (pc := 3) [.int x1, .int x2] dX11_taste_3 kX11_193 rfl sh_0 (Nat.le_of_ble_eq_true rfl) (Nat.le_of_ble_eq_true rfl) h (fun z3 m3 hG h => ?_)
  refine mm_if_eq (pc := 6) (tgt := 26) dX11_taste_6 (by decide) (fun hc => ?_) (fun hc => ?_)
  · have h := mm_ift hc h
    refine mm_iconst (pc := 26) (x := (-1)) dX11_taste_26 rfl ?_
    exact mm_iret (pc := 27) dX11_taste_27 rfl (Nat.le_refl 0) (Nat.le_refl 0) ⟨_, rfl, rfl, hG, h⟩
  · have h := mm_iff hc h
    refine mm_aload_n (pc := 9) (j := 0) dX11_taste_9 rfl rfl ?_
    refine mm_getR (pc := 10) (ci := 11) (N := 19) (r := 37) dX11_taste_10 fX11_59 sh_0 rfl (g_0_12 hG) ?_
    refine mm_getR (pc := 13) (ci := 9) (N := 7) (r := 40) dX11_taste_13 fX11_197 sh_37 rfl (g_37_5 hG) ?_
    refine mm_bipush (pc := 16) (x := 8) dX11_taste_16 rfl ?_
    refine mm_iload_n (pc := 18) (j := 1) dX11_taste_18 rfl rfl ?_
    refine mm_imul (pc := 19) dX11_taste_19 ?_
    refine mm_iload_n (pc := 20) (j := 2) dX11_taste_20 rfl rfl ?_
    refine mm_iadd (pc := 21) dX11_taste_21 ?_
    obtain ⟨hi22, h⟩ := h
    refine mm_iaload (pc := 22) (N := 64) dX11_taste_22 sh_40 hi22 ?_
    refine mm_if_ne (pc := 23) (tgt := 28) dX11_taste_23 (by decide) (fun hc => ?_) (fun hc => ?_)
    · have h := mm_iff hc h
      refine mm_aload_n (pc := 28) (j := 0) dX11_taste_28 rfl rfl ?_
      refine mm_getR (pc := 29) (ci := 11) (N := 19) (r := 21) dX11_taste_29 fX11_49 sh_0 rfl (g_0_10 hG) ?_
      refine mm_aload_n (pc := 32) (j := 0) dX11_taste_32 rfl rfl ?_
      refine mm_getR (pc := 33) (ci := 11) (N := 19) (r := 37) dX11_taste_33 fX11_59 sh_0 rfl (g_0_12 hG) ?_
      refine mm_iload_n (pc := 36) (j := 1) dX11_taste_36 rfl rfl ?_
      refine mm_iload_n (pc := 37) (j := 2) dX11_taste_37 rfl rfl ?_
      refine mm_kVI (pc := 38) [.ref 37, .int x1, .int x2] dX11_taste_38 kX11_211 rfl sh_21 (Nat.le_of_ble_eq_true rfl) (Nat.le_of_ble_eq_true rfl) h (fun z38 m38 hG h => ?_)
      exact mm_iret (pc := 41) dX11_taste_41 rfl (Nat.le_refl 0) (Nat.le_refl 0) ⟨_, rfl, rfl, hG, h⟩
    · have h := mm_ift hc h
      refine mm_iconst (pc := 26) (x := (-1)) dX11_taste_26 rfl ?_
      exact mm_iret (pc := 27) dX11_taste_27 rfl (Nat.le_refl 0) (Nat.le_refl 0) ⟨_, rfl, rfl, hG, h⟩
set_option maxRecDepth 100000 in
set_option maxHeartbeats 4000000 in
theorem rX11_kept {d : Nat} {x1 : Int32} {x2 : Int32} {M : mm_M} {K : Int32 → mm_M → Prop} (hG : mm_G M.2.2) (h : mm_CI mX9_toldOfLoaf d [.ref 37, .int x1, .int x2] M (fun z6 m6 => K z6 m6)) : mm_CI mX11_kept (d + 1) [.ref 0, .int x1, .int x2] M K := by
  show mm_W mX11_kept (d + 1) 0 0 0 [(0, .ref 0), (1, .int x1), (2, .int x2)] [] mm_SH M 0 0 (mm_PI K)
  refine mm_aload_n (pc := 0) (j := 0) dX11_kept_0 rfl rfl ?_
  refine mm_getR (pc := 1) (ci := 11) (N := 19) (r := 37) dX11_kept_1 fX11_59 sh_0 rfl (g_0_12 hG) ?_
  refine mm_iload_n (pc := 4) (j := 1) dX11_kept_4 rfl rfl ?_
  refine mm_iload_n (pc := 5) (j := 2) dX11_kept_5 rfl rfl ?_
  refine mm_kVI (pc := 6) [.int x1, .int x2] dX11_kept_6 kX11_215 rfl sh_37 (Nat.le_of_ble_eq_true rfl) (Nat.le_of_ble_eq_true rfl) h (fun z6 m6 hG h => ?_)
  exact mm_iret (pc := 9) dX11_kept_9 rfl (Nat.le_refl 0) (Nat.le_refl 0) ⟨_, rfl, rfl, hG, h⟩
set_option maxRecDepth 100000 in
set_option maxHeartbeats 4000000 in
theorem rX11_later {d : Nat} {x1 : Int32} {x2 : Int32} {x3 : Int32} {M : mm_M} {K : Int32 → mm_M → Prop} (hG : mm_G M.2.2) (h : mm_CI mX11_isHouse d [.ref 0, .int x1] M (fun z2 m2 => if z2 = 0 then (K (-1) m2) else (if x3 < 0 then (K (-1) m2) else (if 2 < x3 then (K (-1) m2) else (mm_CI mX11_goAhead d [.ref 0, .int x2] m2 (fun z19 m19 => if z19 = 0 then (K (-1) m19) else (if x3 = 0 then (vp_in x1 7 ∧ K (m19.1 43 x1.toNatClampNeg) m19) else (if x3 = 1 then (vp_in x1 7 ∧ K (m19.1 44 x1.toNatClampNeg) m19) else (mm_CI mX9_isThere d [.ref 42, .int x1] m19 (fun z61 m61 => if z61 = 0 then (K 0 m61) else (K 1 m61))))))))))) : mm_CI mX11_later (d + 1) [.ref 0, .int x1, .int x2, .int x3] M K := by
  show mm_W mX11_later (d + 1) 0 0 0 [(0, .ref 0), (1, .int x1), (2, .int x2), (3, .int x3)] [] mm_SH M 0 0 (mm_PI K)
  refine mm_aload_n (pc := 0) (j := 0) dX11_later_0 rfl rfl ?_
  refine mm_iload_n (pc := 1) (j := 1) dX11_later_1 rfl rfl ?_
  refine mm_kVI (pc := 2) [.int x1] dX11_later_2 kX11_171 rfl sh_0 (Nat.le_of_ble_eq_true rfl) (Nat.le_of_ble_eq_true rfl) h (fun z2 m2 hG h => ?_)
  refine mm_if_eq (pc := 5) (tgt := 25) dX11_later_5 (by decide) (fun hc => ?_) (fun hc => ?_)
  · have h := mm_ift hc h
    refine mm_iconst (pc := 25) (x := (-1)) dX11_later_25 rfl ?_
    exact mm_iret (pc := 26) dX11_later_26 rfl (Nat.le_refl 0) (Nat.le_refl 0) ⟨_, rfl, rfl, hG, h⟩
  · have h := mm_iff hc h
    refine mm_iload_n (pc := 8) (j := 3) dX11_later_8 rfl rfl ?_
    refine mm_if_lt (pc := 9) (tgt := 25) dX11_later_9 (by decide) (fun hc => ?_) (fun hc => ?_)
    · have h := mm_ift hc h
      refine mm_iconst (pc := 25) (x := (-1)) dX11_later_25 rfl ?_
      exact mm_iret (pc := 26) dX11_later_26 rfl (Nat.le_refl 0) (Nat.le_refl 0) ⟨_, rfl, rfl, hG, h⟩
    · have h := mm_iff hc h
      refine mm_iload_n (pc := 12) (j := 3) dX11_later_12 rfl rfl ?_
      refine mm_iconst (pc := 13) (x := 2) dX11_later_13 rfl ?_
      refine mm_icmp_gt (pc := 14) (tgt := 25) dX11_later_14 (by decide) (fun hc => ?_) (fun hc => ?_)
      · have h := mm_ift hc h
        refine mm_iconst (pc := 25) (x := (-1)) dX11_later_25 rfl ?_
        exact mm_iret (pc := 26) dX11_later_26 rfl (Nat.le_refl 0) (Nat.le_refl 0) ⟨_, rfl, rfl, hG, h⟩
      · have h := mm_iff hc h
        refine mm_aload_n (pc := 17) (j := 0) dX11_later_17 rfl rfl ?_
        refine mm_iload_n (pc := 18) (j := 2) dX11_later_18 rfl rfl ?_
        refine mm_kVI (pc := 19) [.int x2] dX11_later_19 kX11_219 rfl sh_0 (Nat.le_of_ble_eq_true rfl) (Nat.le_of_ble_eq_true rfl) h (fun z19 m19 hG h => ?_)
        refine mm_if_ne (pc := 22) (tgt := 27) dX11_later_22 (by decide) (fun hc => ?_) (fun hc => ?_)
        · have h := mm_iff hc h
          refine mm_iload_n (pc := 27) (j := 3) dX11_later_27 rfl rfl ?_
          refine mm_if_ne (pc := 28) (tgt := 41) dX11_later_28 (by decide) (fun hc => ?_) (fun hc => ?_)
          · have h := mm_iff hc h
            refine mm_iload_n (pc := 41) (j := 3) dX11_later_41 rfl rfl ?_
            refine mm_iconst (pc := 42) (x := 1) dX11_later_42 rfl ?_
            refine mm_icmp_ne (pc := 43) (tgt := 56) dX11_later_43 (by decide) (fun hc => ?_) (fun hc => ?_)
            · have h := mm_iff hc h
              refine mm_aload_n (pc := 56) (j := 0) dX11_later_56 rfl rfl ?_
              refine mm_getR (pc := 57) (ci := 11) (N := 19) (r := 42) dX11_later_57 fX11_63 sh_0 rfl (g_0_13 hG) ?_
              refine mm_iload_n (pc := 60) (j := 1) dX11_later_60 rfl rfl ?_
              refine mm_kVI (pc := 61) [.int x1] dX11_later_61 kX11_187 rfl sh_42 (Nat.le_of_ble_eq_true rfl) (Nat.le_of_ble_eq_true rfl) h (fun z61 m61 hG h => ?_)
              refine mm_if_eq (pc := 64) (tgt := 71) dX11_later_64 (by decide) (fun hc => ?_) (fun hc => ?_)
              · have h := mm_ift hc h
                refine mm_iconst (pc := 71) (x := 0) dX11_later_71 rfl ?_
                exact mm_iret (pc := 72) dX11_later_72 rfl (Nat.le_refl 0) (Nat.le_refl 0) ⟨_, rfl, rfl, hG, h⟩
              · have h := mm_iff hc h
                refine mm_iconst (pc := 67) (x := 1) dX11_later_67 rfl ?_
                refine mm_goto (pc := 68) (tgt := 72) dX11_later_68 (by decide) ?_
                exact mm_iret (pc := 72) dX11_later_72 rfl (Nat.le_refl 0) (Nat.le_refl 0) ⟨_, rfl, rfl, hG, h⟩
            · have h := mm_ift hc h
              refine mm_aload_n (pc := 46) (j := 0) dX11_later_46 rfl rfl ?_
              refine mm_getR (pc := 47) (ci := 11) (N := 19) (r := 42) dX11_later_47 fX11_63 sh_0 rfl (g_0_13 hG) ?_
              refine mm_getR (pc := 50) (ci := 9) (N := 7) (r := 44) dX11_later_50 fX11_184 sh_42 rfl (g_42_4 hG) ?_
              refine mm_iload_n (pc := 53) (j := 1) dX11_later_53 rfl rfl ?_
              obtain ⟨hi54, h⟩ := h
              refine mm_iaload (pc := 54) (N := 7) dX11_later_54 sh_44 hi54 ?_
              exact mm_iret (pc := 55) dX11_later_55 rfl (Nat.le_refl 0) (Nat.le_refl 0) ⟨_, rfl, rfl, hG, h⟩
          · have h := mm_ift hc h
            refine mm_aload_n (pc := 31) (j := 0) dX11_later_31 rfl rfl ?_
            refine mm_getR (pc := 32) (ci := 11) (N := 19) (r := 42) dX11_later_32 fX11_63 sh_0 rfl (g_0_13 hG) ?_
            refine mm_getR (pc := 35) (ci := 9) (N := 7) (r := 43) dX11_later_35 fX11_178 sh_42 rfl (g_42_3 hG) ?_
            refine mm_iload_n (pc := 38) (j := 1) dX11_later_38 rfl rfl ?_
            obtain ⟨hi39, h⟩ := h
            refine mm_iaload (pc := 39) (N := 7) dX11_later_39 sh_43 hi39 ?_
            exact mm_iret (pc := 40) dX11_later_40 rfl (Nat.le_refl 0) (Nat.le_refl 0) ⟨_, rfl, rfl, hG, h⟩
        · have h := mm_ift hc h
          refine mm_iconst (pc := 25) (x := (-1)) dX11_later_25 rfl ?_
          exact mm_iret (pc := 26) dX11_later_26 rfl (Nat.le_refl 0) (Nat.le_refl 0) ⟨_, rfl, rfl, hG, h⟩
set_option maxRecDepth 100000 in
set_option maxHeartbeats 4000000 in
theorem rX11_cooled {d : Nat} {x1 : Int32} {x2 : Int32} {x3 : Int32} {M : mm_M} {K : Int32 → mm_M → Prop} (hG : mm_G M.2.2) (h : mm_CI mX11_arePair d [.ref 0, .int x1, .int x2] M (fun z3 m3 => if z3 = 0 then (K (-1) m3) else (mm_CI mX11_goAhead d [.ref 0, .int x3] m3 (fun z11 m11 => if z11 = 0 then (K (-1) m11) else (vp_in ((8 * x1) + x2) 64 ∧ K (m11.1 45 ((8 * x1) + x2).toNatClampNeg) m11))))) : mm_CI mX11_cooled (d + 1) [.ref 0, .int x1, .int x2, .int x3] M K := by
  show mm_W mX11_cooled (d + 1) 0 0 0 [(0, .ref 0), (1, .int x1), (2, .int x2), (3, .int x3)] [] mm_SH M 0 0 (mm_PI K)
  refine mm_aload_n (pc := 0) (j := 0) dX11_cooled_0 rfl rfl ?_
  refine mm_iload_n (pc := 1) (j := 1) dX11_cooled_1 rfl rfl ?_
  refine mm_iload_n (pc := 2) (j := 2) dX11_cooled_2 rfl rfl ?_
  refine mm_kVI (pc := 3) [.int x1, .int x2] dX11_cooled_3 kX11_193 rfl sh_0 (Nat.le_of_ble_eq_true rfl) (Nat.le_of_ble_eq_true rfl) h (fun z3 m3 hG h => ?_)
  refine mm_if_eq (pc := 6) (tgt := 17) dX11_cooled_6 (by decide) (fun hc => ?_) (fun hc => ?_)
  · have h := mm_ift hc h
    refine mm_iconst (pc := 17) (x := (-1)) dX11_cooled_17 rfl ?_
    exact mm_iret (pc := 18) dX11_cooled_18 rfl (Nat.le_refl 0) (Nat.le_refl 0) ⟨_, rfl, rfl, hG, h⟩
  · have h := mm_iff hc h
    refine mm_aload_n (pc := 9) (j := 0) dX11_cooled_9 rfl rfl ?_
    refine mm_iload_n (pc := 10) (j := 3) dX11_cooled_10 rfl rfl ?_
    refine mm_kVI (pc := 11) [.int x3] dX11_cooled_11 kX11_219 rfl sh_0 (Nat.le_of_ble_eq_true rfl) (Nat.le_of_ble_eq_true rfl) h (fun z11 m11 hG h => ?_)
    refine mm_if_ne (pc := 14) (tgt := 19) dX11_cooled_14 (by decide) (fun hc => ?_) (fun hc => ?_)
    · have h := mm_iff hc h
      refine mm_aload_n (pc := 19) (j := 0) dX11_cooled_19 rfl rfl ?_
      refine mm_getR (pc := 20) (ci := 11) (N := 19) (r := 42) dX11_cooled_20 fX11_63 sh_0 rfl (g_0_13 hG) ?_
      refine mm_getR (pc := 23) (ci := 9) (N := 7) (r := 45) dX11_cooled_23 fX11_197 sh_42 rfl (g_42_5 hG) ?_
      refine mm_bipush (pc := 26) (x := 8) dX11_cooled_26 rfl ?_
      refine mm_iload_n (pc := 28) (j := 1) dX11_cooled_28 rfl rfl ?_
      refine mm_imul (pc := 29) dX11_cooled_29 ?_
      refine mm_iload_n (pc := 30) (j := 2) dX11_cooled_30 rfl rfl ?_
      refine mm_iadd (pc := 31) dX11_cooled_31 ?_
      obtain ⟨hi32, h⟩ := h
      refine mm_iaload (pc := 32) (N := 64) dX11_cooled_32 sh_45 hi32 ?_
      exact mm_iret (pc := 33) dX11_cooled_33 rfl (Nat.le_refl 0) (Nat.le_refl 0) ⟨_, rfl, rfl, hG, h⟩
    · have h := mm_ift hc h
      refine mm_iconst (pc := 17) (x := (-1)) dX11_cooled_17 rfl ?_
      exact mm_iret (pc := 18) dX11_cooled_18 rfl (Nat.le_refl 0) (Nat.le_refl 0) ⟨_, rfl, rfl, hG, h⟩
def jX11_starves_51 (d : Nat) (x1 : Int32) (M : mm_M) (K : Int32 → mm_M → Prop) (y1 : Int32) (y2 : Int32) (y3 : Int32) : Prop := mm_W mX11_starves (d + 1) 0 0 51 [(0, .ref 0), (1, .int y1), (2, .int y2), (3, .int y3)] [] mm_SH M 0 0 (mm_PI K)
set_option maxRecDepth 100000 in
set_option maxHeartbeats 4000000 in
theorem rX11_starves {d : Nat} {x1 : Int32} {M : mm_M} {K : Int32 → mm_M → Prop} (hG : mm_G M.2.2) (h : mm_CI mX11_isHouse d [.ref 0, .int x1] M (fun z2 m2 => if z2 = 0 then (K (-1) m2) else (mm_CI mX9_isThere d [.ref 37, .int x1] m2 (fun z13 m13 => if z13 = 0 then (K (-1) m13) else (mm_CV mX9_copyFrom d [.ref 42, .ref 37] m13 (fun m29 => jX11_starves_51 d x1 m29 K x1 (if (999 - (m29.1 37 0)) < 60 then (999 - (m29.1 37 0)) else 60) 0)))))) : mm_CI mX11_starves (d + 1) [.ref 0, .int x1] M K := by
  show mm_W mX11_starves (d + 1) 0 0 0 [(0, .ref 0), (1, .int x1)] [] mm_SH M 0 0 (mm_PI K)
  refine mm_aload_n (pc := 0) (j := 0) dX11_starves_0 rfl rfl ?_
  refine mm_iload_n (pc := 1) (j := 1) dX11_starves_1 rfl rfl ?_
  refine mm_kVI (pc := 2) [.int x1] dX11_starves_2 kX11_171 rfl sh_0 (Nat.le_of_ble_eq_true rfl) (Nat.le_of_ble_eq_true rfl) h (fun z2 m2 hG h => ?_)
  refine mm_if_eq (pc := 5) (tgt := 19) dX11_starves_5 (by decide) (fun hc => ?_) (fun hc => ?_)
  · have h := mm_ift hc h
    refine mm_iconst (pc := 19) (x := (-1)) dX11_starves_19 rfl ?_
    exact mm_iret (pc := 20) dX11_starves_20 rfl (Nat.le_refl 0) (Nat.le_refl 0) ⟨_, rfl, rfl, hG, h⟩
  · have h := mm_iff hc h
    refine mm_aload_n (pc := 8) (j := 0) dX11_starves_8 rfl rfl ?_
    refine mm_getR (pc := 9) (ci := 11) (N := 19) (r := 37) dX11_starves_9 fX11_59 sh_0 rfl (g_0_12 hG) ?_
    refine mm_iload_n (pc := 12) (j := 1) dX11_starves_12 rfl rfl ?_
    refine mm_kVI (pc := 13) [.int x1] dX11_starves_13 kX11_187 rfl sh_37 (Nat.le_of_ble_eq_true rfl) (Nat.le_of_ble_eq_true rfl) h (fun z13 m13 hG h => ?_)
    refine mm_if_ne (pc := 16) (tgt := 21) dX11_starves_16 (by decide) (fun hc => ?_) (fun hc => ?_)
    · have h := mm_iff hc h
      refine mm_aload_n (pc := 21) (j := 0) dX11_starves_21 rfl rfl ?_
      refine mm_getR (pc := 22) (ci := 11) (N := 19) (r := 42) dX11_starves_22 fX11_63 sh_0 rfl (g_0_13 hG) ?_
      refine mm_aload_n (pc := 25) (j := 0) dX11_starves_25 rfl rfl ?_
      refine mm_getR (pc := 26) (ci := 11) (N := 19) (r := 37) dX11_starves_26 fX11_59 sh_0 rfl (g_0_12 hG) ?_
      refine mm_kVV (pc := 29) [.ref 37] dX11_starves_29 kX11_200 rfl sh_42 (Nat.le_of_ble_eq_true rfl) (Nat.le_of_ble_eq_true rfl) h (fun m29 hG h => ?_)
      refine mm_bipush (pc := 32) (x := 60) dX11_starves_32 rfl ?_
      refine mm_sipush (pc := 34) (x := 999) dX11_starves_34 rfl ?_
      refine mm_aload_n (pc := 37) (j := 0) dX11_starves_37 rfl rfl ?_
      refine mm_getR (pc := 38) (ci := 11) (N := 19) (r := 37) dX11_starves_38 fX11_59 sh_0 rfl (g_0_12 hG) ?_
      refine mm_getI (pc := 41) (ci := 9) (N := 7) dX11_starves_41 fX11_151 sh_37 rfl ?_
      refine mm_isub (pc := 44) dX11_starves_44 ?_
      refine mm_mmin (pc := 45) dX11_starves_45 kX11_222 ma_min_s ma_ini ma_min_c (Nat.le_of_ble_eq_true rfl) (Nat.le_refl 0) (Nat.le_refl 0) ?_
      refine mm_istore_n (pc := 48) (lv' := [(2, .int (if (999 - (m29.1 37 0)) < 60 then (999 - (m29.1 37 0)) else 60)), (0, .ref 0), (1, .int x1)]) dX11_starves_48 rfl (by decide) rfl ?_
      refine mm_iconst (pc := 49) (x := 0) dX11_starves_49 rfl ?_
      refine mm_istore_n (pc := 50) (lv' := [(3, .int 0), (2, .int (if (999 - (m29.1 37 0)) < 60 then (999 - (m29.1 37 0)) else 60)), (0, .ref 0), (1, .int x1)]) dX11_starves_50 rfl (by decide) rfl ?_
      exact mm_sub [2, 3, 1, 0] rfl h
    · have h := mm_ift hc h
      refine mm_iconst (pc := 19) (x := (-1)) dX11_starves_19 rfl ?_
      exact mm_iret (pc := 20) dX11_starves_20 rfl (Nat.le_refl 0) (Nat.le_refl 0) ⟨_, rfl, rfl, hG, h⟩
set_option maxRecDepth 100000 in
set_option maxHeartbeats 4000000 in
theorem lX11_starves_51 {d : Nat} {x1 : Int32} {M : mm_M} {K : Int32 → mm_M → Prop} {y1 : Int32} {y2 : Int32} {y3 : Int32} (hG : mm_G M.2.2) (h : if y2 ≤ y3 then (K (-1) M) else (mm_CV mX1_run d [.ref 21, .ref 42, .int 0, .int 0] M (fun m66 => mm_CI mX9_isThere d [.ref 42, .int y1] m66 (fun z74 m74 => if z74 = 0 then (K y3 m74) else (jX11_starves_51 d x1 m74 K y1 y2 (y3 + 1)))))) : jX11_starves_51 d x1 M K y1 y2 y3 := by
  unfold jX11_starves_51
  refine mm_iload_n (pc := 51) (j := 3) dX11_starves_51 rfl rfl ?_
  refine mm_iload_n (pc := 52) (j := 2) dX11_starves_52 rfl rfl ?_
  refine mm_icmp_ge (pc := 53) (tgt := 88) dX11_starves_53 (by decide) (fun hc => ?_) (fun hc => ?_)
  · have h := mm_ift hc h
    refine mm_iconst (pc := 88) (x := (-1)) dX11_starves_88 rfl ?_
    exact mm_iret (pc := 89) dX11_starves_89 rfl (Nat.le_refl 0) (Nat.le_refl 0) ⟨_, rfl, rfl, hG, h⟩
  · have h := mm_iff hc h
    refine mm_aload_n (pc := 56) (j := 0) dX11_starves_56 rfl rfl ?_
    refine mm_getR (pc := 57) (ci := 11) (N := 19) (r := 21) dX11_starves_57 fX11_49 sh_0 rfl (g_0_10 hG) ?_
    refine mm_aload_n (pc := 60) (j := 0) dX11_starves_60 rfl rfl ?_
    refine mm_getR (pc := 61) (ci := 11) (N := 19) (r := 42) dX11_starves_61 fX11_63 sh_0 rfl (g_0_13 hG) ?_
    refine mm_iconst (pc := 64) (x := 0) dX11_starves_64 rfl ?_
    refine mm_iconst (pc := 65) (x := 0) dX11_starves_65 rfl ?_
    refine mm_kVV (pc := 66) [.ref 42, .int 0, .int 0] dX11_starves_66 kX11_227 rfl sh_21 (Nat.le_of_ble_eq_true rfl) (Nat.le_of_ble_eq_true rfl) h (fun m66 hG h => ?_)
    refine mm_aload_n (pc := 69) (j := 0) dX11_starves_69 rfl rfl ?_
    refine mm_getR (pc := 70) (ci := 11) (N := 19) (r := 42) dX11_starves_70 fX11_63 sh_0 rfl (g_0_13 hG) ?_
    refine mm_iload_n (pc := 73) (j := 1) dX11_starves_73 rfl rfl ?_
    refine mm_kVI (pc := 74) [.int y1] dX11_starves_74 kX11_187 rfl sh_42 (Nat.le_of_ble_eq_true rfl) (Nat.le_of_ble_eq_true rfl) h (fun z74 m74 hG h => ?_)
    refine mm_if_ne (pc := 77) (tgt := 82) dX11_starves_77 (by decide) (fun hc => ?_) (fun hc => ?_)
    · have h := mm_iff hc h
      refine mm_iinc (pc := 82) (j := 3) (v := y3 + 1) (lv' := [(3, .int (y3 + 1)), (0, .ref 0), (1, .int y1), (2, .int y2)]) dX11_starves_82 rfl rfl (by decide) rfl ?_
      refine mm_goto (pc := 85) (tgt := 51) dX11_starves_85 (by decide) ?_
      exact mm_sub [1, 2, 3, 0] rfl h
    · have h := mm_ift hc h
      refine mm_iload_n (pc := 80) (j := 3) dX11_starves_80 rfl rfl ?_
      exact mm_iret (pc := 81) dX11_starves_81 rfl (Nat.le_refl 0) (Nat.le_refl 0) ⟨_, rfl, rfl, hG, h⟩
set_option maxRecDepth 100000 in
set_option maxHeartbeats 4000000 in
theorem rX11_table {d : Nat} {x1 : Int32} {M : mm_M} {K : Int32 → mm_M → Prop} (hG : mm_G M.2.2) (h : mm_CI mX11_hasDuchy d [.ref 0] M (fun z1 m1 => if z1 = 0 then (K (-1) m1) else (if x1 < 0 then (K (-1) m1) else (∃ q14 : Nat, m1.2.2 0 11 = some q14 ∧ q14 ∈ mm_Rls ∧ if x1 < (2 + (m1.1 q14 2)) then (∃ q31 : Nat, m1.2.2 0 11 = some q31 ∧ q31 ∈ mm_Rls ∧ mm_CV mX10_seat d [.ref 149, .ref q31, .ref 37, .int (m1.1 0 18)] m1 (fun m42 => if x1 = 0 then (K (m42.1 149 0) m42) else (if x1 = 1 then (K (m42.1 149 1) m42) else (vp_in (x1 - 2) 7 ∧ K (m42.1 150 (x1 - 2).toNatClampNeg) m42)))) else (K (-1) m1))))) : mm_CI mX11_table (d + 1) [.ref 0, .int x1] M K := by
  show mm_W mX11_table (d + 1) 0 0 0 [(0, .ref 0), (1, .int x1)] [] mm_SH M 0 0 (mm_PI K)
  refine mm_aload_n (pc := 0) (j := 0) dX11_table_0 rfl rfl ?_
  refine mm_kVI (pc := 1) [] dX11_table_1 kX11_230 rfl sh_0 (Nat.le_of_ble_eq_true rfl) (Nat.le_of_ble_eq_true rfl) h (fun z1 m1 hG h => ?_)
  refine mm_if_eq (pc := 4) (tgt := 24) dX11_table_4 (by decide) (fun hc => ?_) (fun hc => ?_)
  · have h := mm_ift hc h
    refine mm_iconst (pc := 24) (x := (-1)) dX11_table_24 rfl ?_
    exact mm_iret (pc := 25) dX11_table_25 rfl (Nat.le_refl 0) (Nat.le_refl 0) ⟨_, rfl, rfl, hG, h⟩
  · have h := mm_iff hc h
    refine mm_iload_n (pc := 7) (j := 1) dX11_table_7 rfl rfl ?_
    refine mm_if_lt (pc := 8) (tgt := 24) dX11_table_8 (by decide) (fun hc => ?_) (fun hc => ?_)
    · have h := mm_ift hc h
      refine mm_iconst (pc := 24) (x := (-1)) dX11_table_24 rfl ?_
      exact mm_iret (pc := 25) dX11_table_25 rfl (Nat.le_refl 0) (Nat.le_refl 0) ⟨_, rfl, rfl, hG, h⟩
    · have h := mm_iff hc h
      refine mm_iload_n (pc := 11) (j := 1) dX11_table_11 rfl rfl ?_
      refine mm_iconst (pc := 12) (x := 2) dX11_table_12 rfl ?_
      refine mm_aload_n (pc := 13) (j := 0) dX11_table_13 rfl rfl ?_
      obtain ⟨q14, he14, hq14, h⟩ := h
      refine mm_getR (pc := 14) (ci := 11) (N := 19) (r := q14) dX11_table_14 fX11_57 sh_0 rfl he14 ?_
      refine mm_getI (pc := 17) (ci := 7) (N := 11) dX11_table_17 fX11_148 (sh_Rl hq14) rfl ?_
      refine mm_iadd (pc := 20) dX11_table_20 ?_
      refine mm_icmp_lt (pc := 21) (tgt := 26) dX11_table_21 (by decide) (fun hc => ?_) (fun hc => ?_)
      · have h := mm_ift hc h
        refine mm_aload_n (pc := 26) (j := 0) dX11_table_26 rfl rfl ?_
        refine mm_getR (pc := 27) (ci := 11) (N := 19) (r := 149) dX11_table_27 fX11_76 sh_0 rfl (g_0_15 hG) ?_
        refine mm_aload_n (pc := 30) (j := 0) dX11_table_30 rfl rfl ?_
        obtain ⟨q31, he31, hq31, h⟩ := h
        refine mm_getR (pc := 31) (ci := 11) (N := 19) (r := q31) dX11_table_31 fX11_57 sh_0 rfl he31 ?_
        refine mm_aload_n (pc := 34) (j := 0) dX11_table_34 rfl rfl ?_
        refine mm_getR (pc := 35) (ci := 11) (N := 19) (r := 37) dX11_table_35 fX11_59 sh_0 rfl (g_0_12 hG) ?_
        refine mm_aload_n (pc := 38) (j := 0) dX11_table_38 rfl rfl ?_
        refine mm_getI (pc := 39) (ci := 11) (N := 19) dX11_table_39 fX11_137 sh_0 rfl ?_
        refine mm_kVV (pc := 42) [.ref q31, .ref 37, .int (m1.1 0 18)] dX11_table_42 kX11_234 rfl sh_149 (Nat.le_of_ble_eq_true rfl) (Nat.le_of_ble_eq_true rfl) h (fun m42 hG h => ?_)
        refine mm_iload_n (pc := 45) (j := 1) dX11_table_45 rfl rfl ?_
        refine mm_if_ne (pc := 46) (tgt := 57) dX11_table_46 (by decide) (fun hc => ?_) (fun hc => ?_)
        · have h := mm_iff hc h
          refine mm_iload_n (pc := 57) (j := 1) dX11_table_57 rfl rfl ?_
          refine mm_iconst (pc := 58) (x := 1) dX11_table_58 rfl ?_
          refine mm_icmp_ne (pc := 59) (tgt := 72) dX11_table_59 (by decide) (fun hc => ?_) (fun hc => ?_)
          · have h := mm_iff hc h
            refine mm_aload_n (pc := 72) (j := 0) dX11_table_72 rfl rfl ?_
            refine mm_getR (pc := 73) (ci := 11) (N := 19) (r := 149) dX11_table_73 fX11_76 sh_0 rfl (g_0_15 hG) ?_
            refine mm_getR (pc := 76) (ci := 10) (N := 11) (r := 150) dX11_table_76 fX11_244 sh_149 rfl (g_149_2 hG) ?_
            refine mm_iload_n (pc := 79) (j := 1) dX11_table_79 rfl rfl ?_
            refine mm_iconst (pc := 80) (x := 2) dX11_table_80 rfl ?_
            refine mm_isub (pc := 81) dX11_table_81 ?_
            obtain ⟨hi82, h⟩ := h
            refine mm_iaload (pc := 82) (N := 7) dX11_table_82 sh_150 hi82 ?_
            exact mm_iret (pc := 83) dX11_table_83 rfl (Nat.le_refl 0) (Nat.le_refl 0) ⟨_, rfl, rfl, hG, h⟩
          · have h := mm_ift hc h
            refine mm_aload_n (pc := 62) (j := 0) dX11_table_62 rfl rfl ?_
            refine mm_getR (pc := 63) (ci := 11) (N := 19) (r := 149) dX11_table_63 fX11_76 sh_0 rfl (g_0_15 hG) ?_
            refine mm_getI (pc := 66) (ci := 10) (N := 11) dX11_table_66 fX11_241 sh_149 rfl ?_
            refine mm_goto (pc := 69) (tgt := 83) dX11_table_69 (by decide) ?_
            exact mm_iret (pc := 83) dX11_table_83 rfl (Nat.le_refl 0) (Nat.le_refl 0) ⟨_, rfl, rfl, hG, h⟩
        · have h := mm_ift hc h
          refine mm_aload_n (pc := 49) (j := 0) dX11_table_49 rfl rfl ?_
          refine mm_getR (pc := 50) (ci := 11) (N := 19) (r := 149) dX11_table_50 fX11_76 sh_0 rfl (g_0_15 hG) ?_
          refine mm_getI (pc := 53) (ci := 10) (N := 11) dX11_table_53 fX11_238 sh_149 rfl ?_
          exact mm_iret (pc := 56) dX11_table_56 rfl (Nat.le_refl 0) (Nat.le_refl 0) ⟨_, rfl, rfl, hG, h⟩
      · have h := mm_iff hc h
        refine mm_iconst (pc := 24) (x := (-1)) dX11_table_24 rfl ?_
        exact mm_iret (pc := 25) dX11_table_25 rfl (Nat.le_refl 0) (Nat.le_refl 0) ⟨_, rfl, rfl, hG, h⟩
set_option maxRecDepth 100000 in
set_option maxHeartbeats 4000000 in
theorem rX11_wanting {d : Nat} {x1 : Int32} {M : mm_M} {K : Int32 → mm_M → Prop} (hG : mm_G M.2.2) (h : mm_CI mX11_hasDuchy d [.ref 0] M (fun z1 m1 => if z1 = 0 then (K (-1) m1) else (∃ q14 : Nat, m1.2.2 0 11 = some q14 ∧ q14 ∈ mm_Rls ∧ mm_CV mX10_seekWanted d [.ref 149, .ref q14, .ref 37, .int (m1.1 0 18)] m1 (fun m25 => if x1 = (-1) then (K (m25.1 149 3) m25) else (if x1 < 0 then (K (-1) m25) else (if (m25.1 149 3) ≤ x1 then (K (-1) m25) else (vp_in x1 3 ∧ K (m25.1 151 x1.toNatClampNeg) m25))))))) : mm_CI mX11_wanting (d + 1) [.ref 0, .int x1] M K := by
  show mm_W mX11_wanting (d + 1) 0 0 0 [(0, .ref 0), (1, .int x1)] [] mm_SH M 0 0 (mm_PI K)
  refine mm_aload_n (pc := 0) (j := 0) dX11_wanting_0 rfl rfl ?_
  refine mm_kVI (pc := 1) [] dX11_wanting_1 kX11_230 rfl sh_0 (Nat.le_of_ble_eq_true rfl) (Nat.le_of_ble_eq_true rfl) h (fun z1 m1 hG h => ?_)
  refine mm_if_ne (pc := 4) (tgt := 9) dX11_wanting_4 (by decide) (fun hc => ?_) (fun hc => ?_)
  · have h := mm_iff hc h
    refine mm_aload_n (pc := 9) (j := 0) dX11_wanting_9 rfl rfl ?_
    refine mm_getR (pc := 10) (ci := 11) (N := 19) (r := 149) dX11_wanting_10 fX11_76 sh_0 rfl (g_0_15 hG) ?_
    refine mm_aload_n (pc := 13) (j := 0) dX11_wanting_13 rfl rfl ?_
    obtain ⟨q14, he14, hq14, h⟩ := h
    refine mm_getR (pc := 14) (ci := 11) (N := 19) (r := q14) dX11_wanting_14 fX11_57 sh_0 rfl he14 ?_
    refine mm_aload_n (pc := 17) (j := 0) dX11_wanting_17 rfl rfl ?_
    refine mm_getR (pc := 18) (ci := 11) (N := 19) (r := 37) dX11_wanting_18 fX11_59 sh_0 rfl (g_0_12 hG) ?_
    refine mm_aload_n (pc := 21) (j := 0) dX11_wanting_21 rfl rfl ?_
    refine mm_getI (pc := 22) (ci := 11) (N := 19) dX11_wanting_22 fX11_137 sh_0 rfl ?_
    refine mm_kVV (pc := 25) [.ref q14, .ref 37, .int (m1.1 0 18)] dX11_wanting_25 kX11_247 rfl sh_149 (Nat.le_of_ble_eq_true rfl) (Nat.le_of_ble_eq_true rfl) h (fun m25 hG h => ?_)
    refine mm_iload_n (pc := 28) (j := 1) dX11_wanting_28 rfl rfl ?_
    refine mm_iconst (pc := 29) (x := (-1)) dX11_wanting_29 rfl ?_
    refine mm_icmp_ne (pc := 30) (tgt := 41) dX11_wanting_30 (by decide) (fun hc => ?_) (fun hc => ?_)
    · have h := mm_iff hc h
      refine mm_iload_n (pc := 41) (j := 1) dX11_wanting_41 rfl rfl ?_
      refine mm_if_lt (pc := 42) (tgt := 68) dX11_wanting_42 (by decide) (fun hc => ?_) (fun hc => ?_)
      · have h := mm_ift hc h
        refine mm_iconst (pc := 68) (x := (-1)) dX11_wanting_68 rfl ?_
        exact mm_iret (pc := 69) dX11_wanting_69 rfl (Nat.le_refl 0) (Nat.le_refl 0) ⟨_, rfl, rfl, hG, h⟩
      · have h := mm_iff hc h
        refine mm_iload_n (pc := 45) (j := 1) dX11_wanting_45 rfl rfl ?_
        refine mm_aload_n (pc := 46) (j := 0) dX11_wanting_46 rfl rfl ?_
        refine mm_getR (pc := 47) (ci := 11) (N := 19) (r := 149) dX11_wanting_47 fX11_76 sh_0 rfl (g_0_15 hG) ?_
        refine mm_getI (pc := 50) (ci := 10) (N := 11) dX11_wanting_50 fX11_250 sh_149 rfl ?_
        refine mm_icmp_ge (pc := 53) (tgt := 68) dX11_wanting_53 (by decide) (fun hc => ?_) (fun hc => ?_)
        · have h := mm_ift hc h
          refine mm_iconst (pc := 68) (x := (-1)) dX11_wanting_68 rfl ?_
          exact mm_iret (pc := 69) dX11_wanting_69 rfl (Nat.le_refl 0) (Nat.le_refl 0) ⟨_, rfl, rfl, hG, h⟩
        · have h := mm_iff hc h
          refine mm_aload_n (pc := 56) (j := 0) dX11_wanting_56 rfl rfl ?_
          refine mm_getR (pc := 57) (ci := 11) (N := 19) (r := 149) dX11_wanting_57 fX11_76 sh_0 rfl (g_0_15 hG) ?_
          refine mm_getR (pc := 60) (ci := 10) (N := 11) (r := 151) dX11_wanting_60 fX11_253 sh_149 rfl (g_149_4 hG) ?_
          refine mm_iload_n (pc := 63) (j := 1) dX11_wanting_63 rfl rfl ?_
          obtain ⟨hi64, h⟩ := h
          refine mm_iaload (pc := 64) (N := 3) dX11_wanting_64 sh_151 hi64 ?_
          refine mm_goto (pc := 65) (tgt := 69) dX11_wanting_65 (by decide) ?_
          exact mm_iret (pc := 69) dX11_wanting_69 rfl (Nat.le_refl 0) (Nat.le_refl 0) ⟨_, rfl, rfl, hG, h⟩
    · have h := mm_ift hc h
      refine mm_aload_n (pc := 33) (j := 0) dX11_wanting_33 rfl rfl ?_
      refine mm_getR (pc := 34) (ci := 11) (N := 19) (r := 149) dX11_wanting_34 fX11_76 sh_0 rfl (g_0_15 hG) ?_
      refine mm_getI (pc := 37) (ci := 10) (N := 11) dX11_wanting_37 fX11_250 sh_149 rfl ?_
      exact mm_iret (pc := 40) dX11_wanting_40 rfl (Nat.le_refl 0) (Nat.le_refl 0) ⟨_, rfl, rfl, hG, h⟩
  · have h := mm_ift hc h
    refine mm_iconst (pc := 7) (x := (-1)) dX11_wanting_7 rfl ?_
    exact mm_iret (pc := 8) dX11_wanting_8 rfl (Nat.le_refl 0) (Nat.le_refl 0) ⟨_, rfl, rfl, hG, h⟩
set_option maxRecDepth 100000 in
set_option maxHeartbeats 4000000 in
theorem rX11_spared {d : Nat} {x1 : Int32} {x2 : Int32} {M : mm_M} {K : Int32 → mm_M → Prop} (hG : mm_G M.2.2) (h : mm_CI mX11_hasDuchy d [.ref 0] M (fun z1 m1 => if z1 = 0 then (K (-1) m1) else (mm_CI mX11_canLookAtSets d [.ref 0, .int x1] m1 (fun z9 m9 => if z9 = 0 then (K (-1) m9) else (mm_CI mX9_countFeuds d [.ref 37] m9 (fun z19 m19 => if z19 ≤ 10 then (mm_CV mX3_spare d [.ref 156, .ref 21, .ref 37, .ref 42, .int x1, .int (m19.1 0 18)] m19 (fun m50 => if x2 = (-1) then (mm_CI mJ6_bitCount_0f7a4 d [.int (m50.1 156 0)] m50 (fun z65 m65 => K z65 m65)) else (mm_CI mX3_sparedPair d [.ref 156, .int x2] m50 (fun z74 m74 => K z74 m74)))) else (K (-1) m19))))))) : mm_CI mX11_spared (d + 1) [.ref 0, .int x1, .int x2] M K := by
  show mm_W mX11_spared (d + 1) 0 0 0 [(0, .ref 0), (1, .int x1), (2, .int x2)] [] mm_SH M 0 0 (mm_PI K)
  refine mm_aload_n (pc := 0) (j := 0) dX11_spared_0 rfl rfl ?_
  refine mm_kVI (pc := 1) [] dX11_spared_1 kX11_230 rfl sh_0 (Nat.le_of_ble_eq_true rfl) (Nat.le_of_ble_eq_true rfl) h (fun z1 m1 hG h => ?_)
  refine mm_if_eq (pc := 4) (tgt := 27) dX11_spared_4 (by decide) (fun hc => ?_) (fun hc => ?_)
  · have h := mm_ift hc h
    refine mm_iconst (pc := 27) (x := (-1)) dX11_spared_27 rfl ?_
    exact mm_iret (pc := 28) dX11_spared_28 rfl (Nat.le_refl 0) (Nat.le_refl 0) ⟨_, rfl, rfl, hG, h⟩
  · have h := mm_iff hc h
    refine mm_aload_n (pc := 7) (j := 0) dX11_spared_7 rfl rfl ?_
    refine mm_iload_n (pc := 8) (j := 1) dX11_spared_8 rfl rfl ?_
    refine mm_kVI (pc := 9) [.int x1] dX11_spared_9 kX11_256 rfl sh_0 (Nat.le_of_ble_eq_true rfl) (Nat.le_of_ble_eq_true rfl) h (fun z9 m9 hG h => ?_)
    refine mm_if_eq (pc := 12) (tgt := 27) dX11_spared_12 (by decide) (fun hc => ?_) (fun hc => ?_)
    · have h := mm_ift hc h
      refine mm_iconst (pc := 27) (x := (-1)) dX11_spared_27 rfl ?_
      exact mm_iret (pc := 28) dX11_spared_28 rfl (Nat.le_refl 0) (Nat.le_refl 0) ⟨_, rfl, rfl, hG, h⟩
    · have h := mm_iff hc h
      refine mm_aload_n (pc := 15) (j := 0) dX11_spared_15 rfl rfl ?_
      refine mm_getR (pc := 16) (ci := 11) (N := 19) (r := 37) dX11_spared_16 fX11_59 sh_0 rfl (g_0_12 hG) ?_
      refine mm_kVI (pc := 19) [] dX11_spared_19 kX11_162 rfl sh_37 (Nat.le_of_ble_eq_true rfl) (Nat.le_of_ble_eq_true rfl) h (fun z19 m19 hG h => ?_)
      refine mm_bipush (pc := 22) (x := 10) dX11_spared_22 rfl ?_
      refine mm_icmp_le (pc := 24) (tgt := 29) dX11_spared_24 (by decide) (fun hc => ?_) (fun hc => ?_)
      · have h := mm_ift hc h
        refine mm_aload_n (pc := 29) (j := 0) dX11_spared_29 rfl rfl ?_
        refine mm_getR (pc := 30) (ci := 11) (N := 19) (r := 156) dX11_spared_30 fX11_83 sh_0 rfl (g_0_16 hG) ?_
        refine mm_aload_n (pc := 33) (j := 0) dX11_spared_33 rfl rfl ?_
        refine mm_getR (pc := 34) (ci := 11) (N := 19) (r := 21) dX11_spared_34 fX11_49 sh_0 rfl (g_0_10 hG) ?_
        refine mm_aload_n (pc := 37) (j := 0) dX11_spared_37 rfl rfl ?_
        refine mm_getR (pc := 38) (ci := 11) (N := 19) (r := 37) dX11_spared_38 fX11_59 sh_0 rfl (g_0_12 hG) ?_
        refine mm_aload_n (pc := 41) (j := 0) dX11_spared_41 rfl rfl ?_
        refine mm_getR (pc := 42) (ci := 11) (N := 19) (r := 42) dX11_spared_42 fX11_63 sh_0 rfl (g_0_13 hG) ?_
        refine mm_iload_n (pc := 45) (j := 1) dX11_spared_45 rfl rfl ?_
        refine mm_aload_n (pc := 46) (j := 0) dX11_spared_46 rfl rfl ?_
        refine mm_getI (pc := 47) (ci := 11) (N := 19) dX11_spared_47 fX11_137 sh_0 rfl ?_
        refine mm_kVV (pc := 50) [.ref 21, .ref 37, .ref 42, .int x1, .int (m19.1 0 18)] dX11_spared_50 kX11_259 rfl sh_156 (Nat.le_of_ble_eq_true rfl) (Nat.le_of_ble_eq_true rfl) h (fun m50 hG h => ?_)
        refine mm_iload_n (pc := 53) (j := 2) dX11_spared_53 rfl rfl ?_
        refine mm_iconst (pc := 54) (x := (-1)) dX11_spared_54 rfl ?_
        refine mm_icmp_ne (pc := 55) (tgt := 69) dX11_spared_55 (by decide) (fun hc => ?_) (fun hc => ?_)
        · have h := mm_iff hc h
          refine mm_aload_n (pc := 69) (j := 0) dX11_spared_69 rfl rfl ?_
          refine mm_getR (pc := 70) (ci := 11) (N := 19) (r := 156) dX11_spared_70 fX11_83 sh_0 rfl (g_0_16 hG) ?_
          refine mm_iload_n (pc := 73) (j := 2) dX11_spared_73 rfl rfl ?_
          refine mm_kVI (pc := 74) [.int x2] dX11_spared_74 kX11_266 rfl sh_156 (Nat.le_of_ble_eq_true rfl) (Nat.le_of_ble_eq_true rfl) h (fun z74 m74 hG h => ?_)
          exact mm_iret (pc := 77) dX11_spared_77 rfl (Nat.le_refl 0) (Nat.le_refl 0) ⟨_, rfl, rfl, hG, h⟩
        · have h := mm_ift hc h
          refine mm_aload_n (pc := 58) (j := 0) dX11_spared_58 rfl rfl ?_
          refine mm_getR (pc := 59) (ci := 11) (N := 19) (r := 156) dX11_spared_59 fX11_83 sh_0 rfl (g_0_16 hG) ?_
          refine mm_getI (pc := 62) (ci := 3) (N := 6) dX11_spared_62 fX11_263 sh_156 rfl ?_
          refine mm_kSI (pc := 65) [.int (m50.1 156 0)] dX11_spared_65 kX11_157 rfl (Nat.le_of_ble_eq_true rfl) (Nat.le_of_ble_eq_true rfl) h (fun z65 m65 hG h => ?_)
          exact mm_iret (pc := 68) dX11_spared_68 rfl (Nat.le_refl 0) (Nat.le_refl 0) ⟨_, rfl, rfl, hG, h⟩
      · have h := mm_iff hc h
        refine mm_iconst (pc := 27) (x := (-1)) dX11_spared_27 rfl ?_
        exact mm_iret (pc := 28) dX11_spared_28 rfl (Nat.le_refl 0) (Nat.le_refl 0) ⟨_, rfl, rfl, hG, h⟩
set_option maxRecDepth 100000 in
set_option maxHeartbeats 4000000 in
theorem rX11_rest {d : Nat} {x1 : Int32} {M : mm_M} {K : Int32 → mm_M → Prop} (hG : mm_G M.2.2) (h : mm_CI mX11_hasDuchy d [.ref 0] M (fun z1 m1 => if z1 = 0 then (K (-1) m1) else (mm_CI mX11_canLookAtSets d [.ref 0, .int x1] m1 (fun z9 m9 => if z9 = 0 then (K (-1) m9) else (mm_CI mX3_restingSet d [.ref 156, .ref 21, .ref 37, .ref 42, .int x1] m9 (fun z34 m34 => K z34 m34)))))) : mm_CI mX11_rest (d + 1) [.ref 0, .int x1] M K := by
  show mm_W mX11_rest (d + 1) 0 0 0 [(0, .ref 0), (1, .int x1)] [] mm_SH M 0 0 (mm_PI K)
  refine mm_aload_n (pc := 0) (j := 0) dX11_rest_0 rfl rfl ?_
  refine mm_kVI (pc := 1) [] dX11_rest_1 kX11_230 rfl sh_0 (Nat.le_of_ble_eq_true rfl) (Nat.le_of_ble_eq_true rfl) h (fun z1 m1 hG h => ?_)
  refine mm_if_eq (pc := 4) (tgt := 15) dX11_rest_4 (by decide) (fun hc => ?_) (fun hc => ?_)
  · have h := mm_ift hc h
    refine mm_iconst (pc := 15) (x := (-1)) dX11_rest_15 rfl ?_
    exact mm_iret (pc := 16) dX11_rest_16 rfl (Nat.le_refl 0) (Nat.le_refl 0) ⟨_, rfl, rfl, hG, h⟩
  · have h := mm_iff hc h
    refine mm_aload_n (pc := 7) (j := 0) dX11_rest_7 rfl rfl ?_
    refine mm_iload_n (pc := 8) (j := 1) dX11_rest_8 rfl rfl ?_
    refine mm_kVI (pc := 9) [.int x1] dX11_rest_9 kX11_256 rfl sh_0 (Nat.le_of_ble_eq_true rfl) (Nat.le_of_ble_eq_true rfl) h (fun z9 m9 hG h => ?_)
    refine mm_if_ne (pc := 12) (tgt := 17) dX11_rest_12 (by decide) (fun hc => ?_) (fun hc => ?_)
    · have h := mm_iff hc h
      refine mm_aload_n (pc := 17) (j := 0) dX11_rest_17 rfl rfl ?_
      refine mm_getR (pc := 18) (ci := 11) (N := 19) (r := 156) dX11_rest_18 fX11_83 sh_0 rfl (g_0_16 hG) ?_
      refine mm_aload_n (pc := 21) (j := 0) dX11_rest_21 rfl rfl ?_
      refine mm_getR (pc := 22) (ci := 11) (N := 19) (r := 21) dX11_rest_22 fX11_49 sh_0 rfl (g_0_10 hG) ?_
      refine mm_aload_n (pc := 25) (j := 0) dX11_rest_25 rfl rfl ?_
      refine mm_getR (pc := 26) (ci := 11) (N := 19) (r := 37) dX11_rest_26 fX11_59 sh_0 rfl (g_0_12 hG) ?_
      refine mm_aload_n (pc := 29) (j := 0) dX11_rest_29 rfl rfl ?_
      refine mm_getR (pc := 30) (ci := 11) (N := 19) (r := 42) dX11_rest_30 fX11_63 sh_0 rfl (g_0_13 hG) ?_
      refine mm_iload_n (pc := 33) (j := 1) dX11_rest_33 rfl rfl ?_
      refine mm_kVI (pc := 34) [.ref 21, .ref 37, .ref 42, .int x1] dX11_rest_34 kX11_269 rfl sh_156 (Nat.le_of_ble_eq_true rfl) (Nat.le_of_ble_eq_true rfl) h (fun z34 m34 hG h => ?_)
      exact mm_iret (pc := 37) dX11_rest_37 rfl (Nat.le_refl 0) (Nat.le_refl 0) ⟨_, rfl, rfl, hG, h⟩
    · have h := mm_ift hc h
      refine mm_iconst (pc := 15) (x := (-1)) dX11_rest_15 rfl ?_
      exact mm_iret (pc := 16) dX11_rest_16 rfl (Nat.le_refl 0) (Nat.le_refl 0) ⟨_, rfl, rfl, hG, h⟩
set_option maxRecDepth 100000 in
set_option maxHeartbeats 4000000 in
theorem rX11_see {d : Nat} {M : mm_M} {K : Int32 → mm_M → Prop} (hG : mm_G M.2.2) (h : mm_CI mX11_takeTape d [.ref 0] M (fun z9 m9 => ∃ q13 : Nat, m9.2.2 0 11 = some q13 ∧ q13 ∈ mm_Rls ∧ mm_CI mX8_take d [.ref 159, .ref 1, .int z9, .int (m9.1 q13 2)] m9 (fun z19 m19 => if z19 = 0 then (mm_CI mX11_refuse d [.ref 0, .int 1] m19 (fun z27 m27 => K z27 m27)) else (K ((mm_uI m19 0 18 ((m19.1 0 18) + 1)).1 159 0) (mm_uI m19 0 18 ((m19.1 0 18) + 1)))))) : mm_CI mX11_see (d + 1) [.ref 0] M K := by
  show mm_W mX11_see (d + 1) 0 0 0 [(0, .ref 0)] [] mm_SH M 0 0 (mm_PI K)
  refine mm_aload_n (pc := 0) (j := 0) dX11_see_0 rfl rfl ?_
  refine mm_getR (pc := 1) (ci := 11) (N := 19) (r := 159) dX11_see_1 fX11_90 sh_0 rfl (g_0_17 hG) ?_
  refine mm_aload_n (pc := 4) (j := 0) dX11_see_4 rfl rfl ?_
  refine mm_getR (pc := 5) (ci := 11) (N := 19) (r := 1) dX11_see_5 fX11_9 sh_0 rfl (g_0_0 hG) ?_
  refine mm_aload_n (pc := 8) (j := 0) dX11_see_8 rfl rfl ?_
  refine mm_kVI (pc := 9) [] dX11_see_9 kX11_104 rfl sh_0 (Nat.le_of_ble_eq_true rfl) (Nat.le_of_ble_eq_true rfl) h (fun z9 m9 hG h => ?_)
  refine mm_aload_n (pc := 12) (j := 0) dX11_see_12 rfl rfl ?_
  obtain ⟨q13, he13, hq13, h⟩ := h
  refine mm_getR (pc := 13) (ci := 11) (N := 19) (r := q13) dX11_see_13 fX11_57 sh_0 rfl he13 ?_
  refine mm_getI (pc := 16) (ci := 7) (N := 11) dX11_see_16 fX11_148 (sh_Rl hq13) rfl ?_
  refine mm_kVI (pc := 19) [.ref 1, .int z9, .int (m9.1 q13 2)] dX11_see_19 kX11_273 rfl sh_159 (Nat.le_of_ble_eq_true rfl) (Nat.le_of_ble_eq_true rfl) h (fun z19 m19 hG h => ?_)
  refine mm_if_ne (pc := 22) (tgt := 31) dX11_see_22 (by decide) (fun hc => ?_) (fun hc => ?_)
  · have h := mm_iff hc h
    refine mm_aload_n (pc := 31) (j := 0) dX11_see_31 rfl rfl ?_
    refine mm_dup (pc := 32) dX11_see_32 rfl ?_
    refine mm_getI (pc := 33) (ci := 11) (N := 19) dX11_see_33 fX11_137 sh_0 rfl ?_
    refine mm_iconst (pc := 36) (x := 1) dX11_see_36 rfl ?_
    refine mm_iadd (pc := 37) dX11_see_37 ?_
    refine mm_putI (pc := 38) (ci := 11) (N := 19) dX11_see_38 fX11_137 sh_0 (by decide +kernel) rfl rfl rfl ?_
    refine mm_aload_n (pc := 41) (j := 0) dX11_see_41 rfl rfl ?_
    refine mm_getR (pc := 42) (ci := 11) (N := 19) (r := 159) dX11_see_42 fX11_90 sh_0 rfl (g_0_17 hG) ?_
    refine mm_getI (pc := 45) (ci := 8) (N := 15) dX11_see_45 fX11_134 sh_159 rfl ?_
    exact mm_iret (pc := 48) dX11_see_48 rfl (Nat.le_refl 0) (Nat.le_refl 0) ⟨_, rfl, rfl, hG, h⟩
  · have h := mm_ift hc h
    refine mm_aload_n (pc := 25) (j := 0) dX11_see_25 rfl rfl ?_
    refine mm_iconst (pc := 26) (x := 1) dX11_see_26 rfl ?_
    refine mm_kVI (pc := 27) [.int 1] dX11_see_27 kX11_97 rfl sh_0 (Nat.le_of_ble_eq_true rfl) (Nat.le_of_ble_eq_true rfl) h (fun z27 m27 hG h => ?_)
    exact mm_iret (pc := 30) dX11_see_30 rfl (Nat.le_refl 0) (Nat.le_refl 0) ⟨_, rfl, rfl, hG, h⟩
set_option maxRecDepth 100000 in
set_option maxHeartbeats 4000000 in
theorem rX11_flour {d : Nat} {x1 : Int32} {x2 : Int32} {M : mm_M} {K : Int32 → mm_M → Prop} (hG : mm_G M.2.2) (h : mm_CI mX11_isHouse d [.ref 0, .int x1] M (fun z2 m2 => if z2 = 0 then (K (-1) m2) else (mm_CI mX9_isThere d [.ref 37, .int x1] m2 (fun z13 m13 => if z13 = 0 then (K (-1) m13) else (mm_CV mX8_look d [.ref 159, .ref 21, .ref 37, .ref 42, .int x1, .int (m13.1 0 18)] m13 (fun m42 => if x2 = 0 then (K (m42.1 159 1) m42) else (if x2 = 1 then (K (m42.1 159 2) m42) else (if x2 = 2 then (K (m42.1 159 3) m42) else (K (-1) m42))))))))) : mm_CI mX11_flour (d + 1) [.ref 0, .int x1, .int x2] M K := by
  show mm_W mX11_flour (d + 1) 0 0 0 [(0, .ref 0), (1, .int x1), (2, .int x2)] [] mm_SH M 0 0 (mm_PI K)
  refine mm_aload_n (pc := 0) (j := 0) dX11_flour_0 rfl rfl ?_
  refine mm_iload_n (pc := 1) (j := 1) dX11_flour_1 rfl rfl ?_
  refine mm_kVI (pc := 2) [.int x1] dX11_flour_2 kX11_171 rfl sh_0 (Nat.le_of_ble_eq_true rfl) (Nat.le_of_ble_eq_true rfl) h (fun z2 m2 hG h => ?_)
  refine mm_if_eq (pc := 5) (tgt := 19) dX11_flour_5 (by decide) (fun hc => ?_) (fun hc => ?_)
  · have h := mm_ift hc h
    refine mm_iconst (pc := 19) (x := (-1)) dX11_flour_19 rfl ?_
    exact mm_iret (pc := 20) dX11_flour_20 rfl (Nat.le_refl 0) (Nat.le_refl 0) ⟨_, rfl, rfl, hG, h⟩
  · have h := mm_iff hc h
    refine mm_aload_n (pc := 8) (j := 0) dX11_flour_8 rfl rfl ?_
    refine mm_getR (pc := 9) (ci := 11) (N := 19) (r := 37) dX11_flour_9 fX11_59 sh_0 rfl (g_0_12 hG) ?_
    refine mm_iload_n (pc := 12) (j := 1) dX11_flour_12 rfl rfl ?_
    refine mm_kVI (pc := 13) [.int x1] dX11_flour_13 kX11_187 rfl sh_37 (Nat.le_of_ble_eq_true rfl) (Nat.le_of_ble_eq_true rfl) h (fun z13 m13 hG h => ?_)
    refine mm_if_ne (pc := 16) (tgt := 21) dX11_flour_16 (by decide) (fun hc => ?_) (fun hc => ?_)
    · have h := mm_iff hc h
      refine mm_aload_n (pc := 21) (j := 0) dX11_flour_21 rfl rfl ?_
      refine mm_getR (pc := 22) (ci := 11) (N := 19) (r := 159) dX11_flour_22 fX11_90 sh_0 rfl (g_0_17 hG) ?_
      refine mm_aload_n (pc := 25) (j := 0) dX11_flour_25 rfl rfl ?_
      refine mm_getR (pc := 26) (ci := 11) (N := 19) (r := 21) dX11_flour_26 fX11_49 sh_0 rfl (g_0_10 hG) ?_
      refine mm_aload_n (pc := 29) (j := 0) dX11_flour_29 rfl rfl ?_
      refine mm_getR (pc := 30) (ci := 11) (N := 19) (r := 37) dX11_flour_30 fX11_59 sh_0 rfl (g_0_12 hG) ?_
      refine mm_aload_n (pc := 33) (j := 0) dX11_flour_33 rfl rfl ?_
      refine mm_getR (pc := 34) (ci := 11) (N := 19) (r := 42) dX11_flour_34 fX11_63 sh_0 rfl (g_0_13 hG) ?_
      refine mm_iload_n (pc := 37) (j := 1) dX11_flour_37 rfl rfl ?_
      refine mm_aload_n (pc := 38) (j := 0) dX11_flour_38 rfl rfl ?_
      refine mm_getI (pc := 39) (ci := 11) (N := 19) dX11_flour_39 fX11_137 sh_0 rfl ?_
      refine mm_kVV (pc := 42) [.ref 21, .ref 37, .ref 42, .int x1, .int (m13.1 0 18)] dX11_flour_42 kX11_277 rfl sh_159 (Nat.le_of_ble_eq_true rfl) (Nat.le_of_ble_eq_true rfl) h (fun m42 hG h => ?_)
      refine mm_iload_n (pc := 45) (j := 2) dX11_flour_45 rfl rfl ?_
      by_cases hs46_0 : x2 = 0
      · have h := mm_ift hs46_0 h
        refine mm_tableIn (pc := 46) (off := 26) (tgt := 72) dX11_flour_46 (by rw [hs46_0]; decide) (by rw [hs46_0]; decide) (by rw [hs46_0]; rfl) (by decide) ?_
        refine mm_aload_n (pc := 72) (j := 0) dX11_flour_72 rfl rfl ?_
        refine mm_getR (pc := 73) (ci := 11) (N := 19) (r := 159) dX11_flour_73 fX11_90 sh_0 rfl (g_0_17 hG) ?_
        refine mm_getI (pc := 76) (ci := 8) (N := 15) dX11_flour_76 fX11_280 sh_159 rfl ?_
        exact mm_iret (pc := 79) dX11_flour_79 rfl (Nat.le_refl 0) (Nat.le_refl 0) ⟨_, rfl, rfl, hG, h⟩
      · have h := mm_iff hs46_0 h
        by_cases hs46_1 : x2 = 1
        · have h := mm_ift hs46_1 h
          refine mm_tableIn (pc := 46) (off := 34) (tgt := 80) dX11_flour_46 (by rw [hs46_1]; decide) (by rw [hs46_1]; decide) (by rw [hs46_1]; rfl) (by decide) ?_
          refine mm_aload_n (pc := 80) (j := 0) dX11_flour_80 rfl rfl ?_
          refine mm_getR (pc := 81) (ci := 11) (N := 19) (r := 159) dX11_flour_81 fX11_90 sh_0 rfl (g_0_17 hG) ?_
          refine mm_getI (pc := 84) (ci := 8) (N := 15) dX11_flour_84 fX11_283 sh_159 rfl ?_
          exact mm_iret (pc := 87) dX11_flour_87 rfl (Nat.le_refl 0) (Nat.le_refl 0) ⟨_, rfl, rfl, hG, h⟩
        · have h := mm_iff hs46_1 h
          by_cases hs46_2 : x2 = 2
          · have h := mm_ift hs46_2 h
            refine mm_tableIn (pc := 46) (off := 42) (tgt := 88) dX11_flour_46 (by rw [hs46_2]; decide) (by rw [hs46_2]; decide) (by rw [hs46_2]; rfl) (by decide) ?_
            refine mm_aload_n (pc := 88) (j := 0) dX11_flour_88 rfl rfl ?_
            refine mm_getR (pc := 89) (ci := 11) (N := 19) (r := 159) dX11_flour_89 fX11_90 sh_0 rfl (g_0_17 hG) ?_
            refine mm_getI (pc := 92) (ci := 8) (N := 15) dX11_flour_92 fX11_286 sh_159 rfl ?_
            exact mm_iret (pc := 95) dX11_flour_95 rfl (Nat.le_refl 0) (Nat.le_refl 0) ⟨_, rfl, rfl, hG, h⟩
          · have h := mm_iff hs46_2 h
            have ht46_0 := lv_neT hs46_0 (show (0 : Int32).toInt = 0 from rfl)
            have ht46_1 := lv_neT hs46_1 (show (1 : Int32).toInt = 1 from rfl)
            have ht46_2 := lv_neT hs46_2 (show (2 : Int32).toInt = 2 from rfl)
            refine mm_tableOut (pc := 46) (tgt := 96) dX11_flour_46 (by omega) (by decide) ?_
            refine mm_iconst (pc := 96) (x := (-1)) dX11_flour_96 rfl ?_
            exact mm_iret (pc := 97) dX11_flour_97 rfl (Nat.le_refl 0) (Nat.le_refl 0) ⟨_, rfl, rfl, hG, h⟩
    · have h := mm_ift hc h
      refine mm_iconst (pc := 19) (x := (-1)) dX11_flour_19 rfl ?_
      exact mm_iret (pc := 20) dX11_flour_20 rfl (Nat.le_refl 0) (Nat.le_refl 0) ⟨_, rfl, rfl, hG, h⟩
set_option maxRecDepth 100000 in
set_option maxHeartbeats 4000000 in
theorem rX11_tells {d : Nat} {x1 : Int32} {x2 : Int32} {M : mm_M} {K : Int32 → mm_M → Prop} (hG : mm_G M.2.2) (h : mm_CI mX11_isHouse d [.ref 0, .int x1] M (fun z2 m2 => if z2 = 0 then (K (-1) m2) else (mm_CI mX9_isThere d [.ref 37, .int x1] m2 (fun z13 m13 => if z13 = 0 then (K (-1) m13) else (mm_CV mX8_look d [.ref 159, .ref 21, .ref 37, .ref 42, .int x1, .int (m13.1 0 18)] m13 (fun m42 => mm_CV mX8_choose d [.ref 159, .ref 21, .ref 37, .ref 42, .int x1, .int (m42.1 0 18)] m42 (fun m66 => if x2 = 0 then (K (m66.1 159 4) m66) else (if x2 = 1 then (K (m66.1 159 5) m66) else (if x2 = 2 then (K (m66.1 159 6) m66) else (K (-1) m66)))))))))) : mm_CI mX11_tells (d + 1) [.ref 0, .int x1, .int x2] M K := by
  show mm_W mX11_tells (d + 1) 0 0 0 [(0, .ref 0), (1, .int x1), (2, .int x2)] [] mm_SH M 0 0 (mm_PI K)
  refine mm_aload_n (pc := 0) (j := 0) dX11_tells_0 rfl rfl ?_
  refine mm_iload_n (pc := 1) (j := 1) dX11_tells_1 rfl rfl ?_
  refine mm_kVI (pc := 2) [.int x1] dX11_tells_2 kX11_171 rfl sh_0 (Nat.le_of_ble_eq_true rfl) (Nat.le_of_ble_eq_true rfl) h (fun z2 m2 hG h => ?_)
  refine mm_if_eq (pc := 5) (tgt := 19) dX11_tells_5 (by decide) (fun hc => ?_) (fun hc => ?_)
  · have h := mm_ift hc h
    refine mm_iconst (pc := 19) (x := (-1)) dX11_tells_19 rfl ?_
    exact mm_iret (pc := 20) dX11_tells_20 rfl (Nat.le_refl 0) (Nat.le_refl 0) ⟨_, rfl, rfl, hG, h⟩
  · have h := mm_iff hc h
    refine mm_aload_n (pc := 8) (j := 0) dX11_tells_8 rfl rfl ?_
    refine mm_getR (pc := 9) (ci := 11) (N := 19) (r := 37) dX11_tells_9 fX11_59 sh_0 rfl (g_0_12 hG) ?_
    refine mm_iload_n (pc := 12) (j := 1) dX11_tells_12 rfl rfl ?_
    refine mm_kVI (pc := 13) [.int x1] dX11_tells_13 kX11_187 rfl sh_37 (Nat.le_of_ble_eq_true rfl) (Nat.le_of_ble_eq_true rfl) h (fun z13 m13 hG h => ?_)
    refine mm_if_ne (pc := 16) (tgt := 21) dX11_tells_16 (by decide) (fun hc => ?_) (fun hc => ?_)
    · have h := mm_iff hc h
      refine mm_aload_n (pc := 21) (j := 0) dX11_tells_21 rfl rfl ?_
      refine mm_getR (pc := 22) (ci := 11) (N := 19) (r := 159) dX11_tells_22 fX11_90 sh_0 rfl (g_0_17 hG) ?_
      refine mm_aload_n (pc := 25) (j := 0) dX11_tells_25 rfl rfl ?_
      refine mm_getR (pc := 26) (ci := 11) (N := 19) (r := 21) dX11_tells_26 fX11_49 sh_0 rfl (g_0_10 hG) ?_
      refine mm_aload_n (pc := 29) (j := 0) dX11_tells_29 rfl rfl ?_
      refine mm_getR (pc := 30) (ci := 11) (N := 19) (r := 37) dX11_tells_30 fX11_59 sh_0 rfl (g_0_12 hG) ?_
      refine mm_aload_n (pc := 33) (j := 0) dX11_tells_33 rfl rfl ?_
      refine mm_getR (pc := 34) (ci := 11) (N := 19) (r := 42) dX11_tells_34 fX11_63 sh_0 rfl (g_0_13 hG) ?_
      refine mm_iload_n (pc := 37) (j := 1) dX11_tells_37 rfl rfl ?_
      refine mm_aload_n (pc := 38) (j := 0) dX11_tells_38 rfl rfl ?_
      refine mm_getI (pc := 39) (ci := 11) (N := 19) dX11_tells_39 fX11_137 sh_0 rfl ?_
      refine mm_kVV (pc := 42) [.ref 21, .ref 37, .ref 42, .int x1, .int (m13.1 0 18)] dX11_tells_42 kX11_277 rfl sh_159 (Nat.le_of_ble_eq_true rfl) (Nat.le_of_ble_eq_true rfl) h (fun m42 hG h => ?_)
      refine mm_aload_n (pc := 45) (j := 0) dX11_tells_45 rfl rfl ?_
      refine mm_getR (pc := 46) (ci := 11) (N := 19) (r := 159) dX11_tells_46 fX11_90 sh_0 rfl (g_0_17 hG) ?_
      refine mm_aload_n (pc := 49) (j := 0) dX11_tells_49 rfl rfl ?_
      refine mm_getR (pc := 50) (ci := 11) (N := 19) (r := 21) dX11_tells_50 fX11_49 sh_0 rfl (g_0_10 hG) ?_
      refine mm_aload_n (pc := 53) (j := 0) dX11_tells_53 rfl rfl ?_
      refine mm_getR (pc := 54) (ci := 11) (N := 19) (r := 37) dX11_tells_54 fX11_59 sh_0 rfl (g_0_12 hG) ?_
      refine mm_aload_n (pc := 57) (j := 0) dX11_tells_57 rfl rfl ?_
      refine mm_getR (pc := 58) (ci := 11) (N := 19) (r := 42) dX11_tells_58 fX11_63 sh_0 rfl (g_0_13 hG) ?_
      refine mm_iload_n (pc := 61) (j := 1) dX11_tells_61 rfl rfl ?_
      refine mm_aload_n (pc := 62) (j := 0) dX11_tells_62 rfl rfl ?_
      refine mm_getI (pc := 63) (ci := 11) (N := 19) dX11_tells_63 fX11_137 sh_0 rfl ?_
      refine mm_kVV (pc := 66) [.ref 21, .ref 37, .ref 42, .int x1, .int (m42.1 0 18)] dX11_tells_66 kX11_289 rfl sh_159 (Nat.le_of_ble_eq_true rfl) (Nat.le_of_ble_eq_true rfl) h (fun m66 hG h => ?_)
      refine mm_iload_n (pc := 69) (j := 2) dX11_tells_69 rfl rfl ?_
      by_cases hs70_0 : x2 = 0
      · have h := mm_ift hs70_0 h
        refine mm_tableIn (pc := 70) (off := 26) (tgt := 96) dX11_tells_70 (by rw [hs70_0]; decide) (by rw [hs70_0]; decide) (by rw [hs70_0]; rfl) (by decide) ?_
        refine mm_aload_n (pc := 96) (j := 0) dX11_tells_96 rfl rfl ?_
        refine mm_getR (pc := 97) (ci := 11) (N := 19) (r := 159) dX11_tells_97 fX11_90 sh_0 rfl (g_0_17 hG) ?_
        refine mm_getI (pc := 100) (ci := 8) (N := 15) dX11_tells_100 fX11_292 sh_159 rfl ?_
        exact mm_iret (pc := 103) dX11_tells_103 rfl (Nat.le_refl 0) (Nat.le_refl 0) ⟨_, rfl, rfl, hG, h⟩
      · have h := mm_iff hs70_0 h
        by_cases hs70_1 : x2 = 1
        · have h := mm_ift hs70_1 h
          refine mm_tableIn (pc := 70) (off := 34) (tgt := 104) dX11_tells_70 (by rw [hs70_1]; decide) (by rw [hs70_1]; decide) (by rw [hs70_1]; rfl) (by decide) ?_
          refine mm_aload_n (pc := 104) (j := 0) dX11_tells_104 rfl rfl ?_
          refine mm_getR (pc := 105) (ci := 11) (N := 19) (r := 159) dX11_tells_105 fX11_90 sh_0 rfl (g_0_17 hG) ?_
          refine mm_getI (pc := 108) (ci := 8) (N := 15) dX11_tells_108 fX11_295 sh_159 rfl ?_
          exact mm_iret (pc := 111) dX11_tells_111 rfl (Nat.le_refl 0) (Nat.le_refl 0) ⟨_, rfl, rfl, hG, h⟩
        · have h := mm_iff hs70_1 h
          by_cases hs70_2 : x2 = 2
          · have h := mm_ift hs70_2 h
            refine mm_tableIn (pc := 70) (off := 42) (tgt := 112) dX11_tells_70 (by rw [hs70_2]; decide) (by rw [hs70_2]; decide) (by rw [hs70_2]; rfl) (by decide) ?_
            refine mm_aload_n (pc := 112) (j := 0) dX11_tells_112 rfl rfl ?_
            refine mm_getR (pc := 113) (ci := 11) (N := 19) (r := 159) dX11_tells_113 fX11_90 sh_0 rfl (g_0_17 hG) ?_
            refine mm_getI (pc := 116) (ci := 8) (N := 15) dX11_tells_116 fX11_298 sh_159 rfl ?_
            exact mm_iret (pc := 119) dX11_tells_119 rfl (Nat.le_refl 0) (Nat.le_refl 0) ⟨_, rfl, rfl, hG, h⟩
          · have h := mm_iff hs70_2 h
            have ht70_0 := lv_neT hs70_0 (show (0 : Int32).toInt = 0 from rfl)
            have ht70_1 := lv_neT hs70_1 (show (1 : Int32).toInt = 1 from rfl)
            have ht70_2 := lv_neT hs70_2 (show (2 : Int32).toInt = 2 from rfl)
            refine mm_tableOut (pc := 70) (tgt := 120) dX11_tells_70 (by omega) (by decide) ?_
            refine mm_iconst (pc := 120) (x := (-1)) dX11_tells_120 rfl ?_
            exact mm_iret (pc := 121) dX11_tells_121 rfl (Nat.le_refl 0) (Nat.le_refl 0) ⟨_, rfl, rfl, hG, h⟩
    · have h := mm_ift hc h
      refine mm_iconst (pc := 19) (x := (-1)) dX11_tells_19 rfl ?_
      exact mm_iret (pc := 20) dX11_tells_20 rfl (Nat.le_refl 0) (Nat.le_refl 0) ⟨_, rfl, rfl, hG, h⟩
set_option maxRecDepth 100000 in
set_option maxHeartbeats 4000000 in
theorem rX11_feud {d : Nat} {x1 : Int32} {x2 : Int32} {x3 : Int32} {M : mm_M} {K : Int32 → mm_M → Prop} (hG : mm_G M.2.2) (h : mm_CI mX11_arePair d [.ref 0, .int x1, .int x2] M (fun z3 m3 => if z3 = 0 then (mm_CI mX11_refuse d [.ref 0, .int 2] m3 (fun z61 m61 => K 0 m61)) else (mm_CI mX9_isThere d [.ref 37, .int x1] m3 (fun z14 m14 => if z14 = 0 then (mm_CI mX11_refuse d [.ref 0, .int 2] m14 (fun z61 m61 => K 0 m61)) else (mm_CI mX9_isThere d [.ref 37, .int x2] m14 (fun z25 m25 => if z25 = 0 then (mm_CI mX11_refuse d [.ref 0, .int 2] m25 (fun z61 m61 => K 0 m61)) else (if x3 < 0 then (mm_CI mX11_refuse d [.ref 0, .int 2] m25 (fun z61 m61 => K 0 m61)) else (if 99 < x3 then (mm_CI mX11_refuse d [.ref 0, .int 2] m25 (fun z61 m61 => K 0 m61)) else (vp_in ((8 * x1) + x2) 64 ∧ if (m25.1 40 ((8 * x1) + x2).toNatClampNeg) = x3 then (mm_CI mX11_refuse d [.ref 0, .int 2] m25 (fun z61 m61 => K 0 m61)) else (mm_CV mX11_beginAct d [.ref 0] m25 (fun m68 => mm_CV mX9_setHate d [.ref 37, .int x1, .int x2, .int x3] m68 (fun m78 => K 1 m78)))))))))))) : mm_CI mX11_feud (d + 1) [.ref 0, .int x1, .int x2, .int x3] M K := by
  show mm_W mX11_feud (d + 1) 0 0 0 [(0, .ref 0), (1, .int x1), (2, .int x2), (3, .int x3)] [] mm_SH M 0 0 (mm_PI K)
  refine mm_aload_n (pc := 0) (j := 0) dX11_feud_0 rfl rfl ?_
  refine mm_iload_n (pc := 1) (j := 1) dX11_feud_1 rfl rfl ?_
  refine mm_iload_n (pc := 2) (j := 2) dX11_feud_2 rfl rfl ?_
  refine mm_kVI (pc := 3) [.int x1, .int x2] dX11_feud_3 kX11_193 rfl sh_0 (Nat.le_of_ble_eq_true rfl) (Nat.le_of_ble_eq_true rfl) h (fun z3 m3 hG h => ?_)
  refine mm_if_eq (pc := 6) (tgt := 59) dX11_feud_6 (by decide) (fun hc => ?_) (fun hc => ?_)
  · have h := mm_ift hc h
    refine mm_aload_n (pc := 59) (j := 0) dX11_feud_59 rfl rfl ?_
    refine mm_iconst (pc := 60) (x := 2) dX11_feud_60 rfl ?_
    refine mm_kVI (pc := 61) [.int 2] dX11_feud_61 kX11_97 rfl sh_0 (Nat.le_of_ble_eq_true rfl) (Nat.le_of_ble_eq_true rfl) h (fun z61 m61 hG h => ?_)
    refine mm_pop (pc := 64) dX11_feud_64 rfl ?_
    refine mm_iconst (pc := 65) (x := 0) dX11_feud_65 rfl ?_
    exact mm_zret (pc := 66) dX11_feud_66 rfl rfl (Nat.le_refl 0) (Nat.le_refl 0) ⟨_, rfl, rfl, hG, h⟩
  · have h := mm_iff hc h
    refine mm_aload_n (pc := 9) (j := 0) dX11_feud_9 rfl rfl ?_
    refine mm_getR (pc := 10) (ci := 11) (N := 19) (r := 37) dX11_feud_10 fX11_59 sh_0 rfl (g_0_12 hG) ?_
    refine mm_iload_n (pc := 13) (j := 1) dX11_feud_13 rfl rfl ?_
    refine mm_kVI (pc := 14) [.int x1] dX11_feud_14 kX11_187 rfl sh_37 (Nat.le_of_ble_eq_true rfl) (Nat.le_of_ble_eq_true rfl) h (fun z14 m14 hG h => ?_)
    refine mm_if_eq (pc := 17) (tgt := 59) dX11_feud_17 (by decide) (fun hc => ?_) (fun hc => ?_)
    · have h := mm_ift hc h
      refine mm_aload_n (pc := 59) (j := 0) dX11_feud_59 rfl rfl ?_
      refine mm_iconst (pc := 60) (x := 2) dX11_feud_60 rfl ?_
      refine mm_kVI (pc := 61) [.int 2] dX11_feud_61 kX11_97 rfl sh_0 (Nat.le_of_ble_eq_true rfl) (Nat.le_of_ble_eq_true rfl) h (fun z61 m61 hG h => ?_)
      refine mm_pop (pc := 64) dX11_feud_64 rfl ?_
      refine mm_iconst (pc := 65) (x := 0) dX11_feud_65 rfl ?_
      exact mm_zret (pc := 66) dX11_feud_66 rfl rfl (Nat.le_refl 0) (Nat.le_refl 0) ⟨_, rfl, rfl, hG, h⟩
    · have h := mm_iff hc h
      refine mm_aload_n (pc := 20) (j := 0) dX11_feud_20 rfl rfl ?_
      refine mm_getR (pc := 21) (ci := 11) (N := 19) (r := 37) dX11_feud_21 fX11_59 sh_0 rfl (g_0_12 hG) ?_
      refine mm_iload_n (pc := 24) (j := 2) dX11_feud_24 rfl rfl ?_
      refine mm_kVI (pc := 25) [.int x2] dX11_feud_25 kX11_187 rfl sh_37 (Nat.le_of_ble_eq_true rfl) (Nat.le_of_ble_eq_true rfl) h (fun z25 m25 hG h => ?_)
      refine mm_if_eq (pc := 28) (tgt := 59) dX11_feud_28 (by decide) (fun hc => ?_) (fun hc => ?_)
      · have h := mm_ift hc h
        refine mm_aload_n (pc := 59) (j := 0) dX11_feud_59 rfl rfl ?_
        refine mm_iconst (pc := 60) (x := 2) dX11_feud_60 rfl ?_
        refine mm_kVI (pc := 61) [.int 2] dX11_feud_61 kX11_97 rfl sh_0 (Nat.le_of_ble_eq_true rfl) (Nat.le_of_ble_eq_true rfl) h (fun z61 m61 hG h => ?_)
        refine mm_pop (pc := 64) dX11_feud_64 rfl ?_
        refine mm_iconst (pc := 65) (x := 0) dX11_feud_65 rfl ?_
        exact mm_zret (pc := 66) dX11_feud_66 rfl rfl (Nat.le_refl 0) (Nat.le_refl 0) ⟨_, rfl, rfl, hG, h⟩
      · have h := mm_iff hc h
        refine mm_iload_n (pc := 31) (j := 3) dX11_feud_31 rfl rfl ?_
        refine mm_if_lt (pc := 32) (tgt := 59) dX11_feud_32 (by decide) (fun hc => ?_) (fun hc => ?_)
        · have h := mm_ift hc h
          refine mm_aload_n (pc := 59) (j := 0) dX11_feud_59 rfl rfl ?_
          refine mm_iconst (pc := 60) (x := 2) dX11_feud_60 rfl ?_
          refine mm_kVI (pc := 61) [.int 2] dX11_feud_61 kX11_97 rfl sh_0 (Nat.le_of_ble_eq_true rfl) (Nat.le_of_ble_eq_true rfl) h (fun z61 m61 hG h => ?_)
          refine mm_pop (pc := 64) dX11_feud_64 rfl ?_
          refine mm_iconst (pc := 65) (x := 0) dX11_feud_65 rfl ?_
          exact mm_zret (pc := 66) dX11_feud_66 rfl rfl (Nat.le_refl 0) (Nat.le_refl 0) ⟨_, rfl, rfl, hG, h⟩
        · have h := mm_iff hc h
          refine mm_iload_n (pc := 35) (j := 3) dX11_feud_35 rfl rfl ?_
          refine mm_bipush (pc := 36) (x := 99) dX11_feud_36 rfl ?_
          refine mm_icmp_gt (pc := 38) (tgt := 59) dX11_feud_38 (by decide) (fun hc => ?_) (fun hc => ?_)
          · have h := mm_ift hc h
            refine mm_aload_n (pc := 59) (j := 0) dX11_feud_59 rfl rfl ?_
            refine mm_iconst (pc := 60) (x := 2) dX11_feud_60 rfl ?_
            refine mm_kVI (pc := 61) [.int 2] dX11_feud_61 kX11_97 rfl sh_0 (Nat.le_of_ble_eq_true rfl) (Nat.le_of_ble_eq_true rfl) h (fun z61 m61 hG h => ?_)
            refine mm_pop (pc := 64) dX11_feud_64 rfl ?_
            refine mm_iconst (pc := 65) (x := 0) dX11_feud_65 rfl ?_
            exact mm_zret (pc := 66) dX11_feud_66 rfl rfl (Nat.le_refl 0) (Nat.le_refl 0) ⟨_, rfl, rfl, hG, h⟩
          · have h := mm_iff hc h
            refine mm_aload_n (pc := 41) (j := 0) dX11_feud_41 rfl rfl ?_
            refine mm_getR (pc := 42) (ci := 11) (N := 19) (r := 37) dX11_feud_42 fX11_59 sh_0 rfl (g_0_12 hG) ?_
            refine mm_getR (pc := 45) (ci := 9) (N := 7) (r := 40) dX11_feud_45 fX11_197 sh_37 rfl (g_37_5 hG) ?_
            refine mm_bipush (pc := 48) (x := 8) dX11_feud_48 rfl ?_
            refine mm_iload_n (pc := 50) (j := 1) dX11_feud_50 rfl rfl ?_
            refine mm_imul (pc := 51) dX11_feud_51 ?_
            refine mm_iload_n (pc := 52) (j := 2) dX11_feud_52 rfl rfl ?_
            refine mm_iadd (pc := 53) dX11_feud_53 ?_
            obtain ⟨hi54, h⟩ := h
            refine mm_iaload (pc := 54) (N := 64) dX11_feud_54 sh_40 hi54 ?_
            refine mm_iload_n (pc := 55) (j := 3) dX11_feud_55 rfl rfl ?_
            refine mm_icmp_ne (pc := 56) (tgt := 67) dX11_feud_56 (by decide) (fun hc => ?_) (fun hc => ?_)
            · have h := mm_iff hc h
              refine mm_aload_n (pc := 67) (j := 0) dX11_feud_67 rfl rfl ?_
              refine mm_kVV (pc := 68) [] dX11_feud_68 kX11_301 rfl sh_0 (Nat.le_of_ble_eq_true rfl) (Nat.le_of_ble_eq_true rfl) h (fun m68 hG h => ?_)
              refine mm_aload_n (pc := 71) (j := 0) dX11_feud_71 rfl rfl ?_
              refine mm_getR (pc := 72) (ci := 11) (N := 19) (r := 37) dX11_feud_72 fX11_59 sh_0 rfl (g_0_12 hG) ?_
              refine mm_iload_n (pc := 75) (j := 1) dX11_feud_75 rfl rfl ?_
              refine mm_iload_n (pc := 76) (j := 2) dX11_feud_76 rfl rfl ?_
              refine mm_iload_n (pc := 77) (j := 3) dX11_feud_77 rfl rfl ?_
              refine mm_kVV (pc := 78) [.int x1, .int x2, .int x3] dX11_feud_78 kX11_304 rfl sh_37 (Nat.le_of_ble_eq_true rfl) (Nat.le_of_ble_eq_true rfl) h (fun m78 hG h => ?_)
              refine mm_iconst (pc := 81) (x := 1) dX11_feud_81 rfl ?_
              exact mm_zret (pc := 82) dX11_feud_82 rfl rfl (Nat.le_refl 0) (Nat.le_refl 0) ⟨_, rfl, rfl, hG, h⟩
            · have h := mm_ift hc h
              refine mm_aload_n (pc := 59) (j := 0) dX11_feud_59 rfl rfl ?_
              refine mm_iconst (pc := 60) (x := 2) dX11_feud_60 rfl ?_
              refine mm_kVI (pc := 61) [.int 2] dX11_feud_61 kX11_97 rfl sh_0 (Nat.le_of_ble_eq_true rfl) (Nat.le_of_ble_eq_true rfl) h (fun z61 m61 hG h => ?_)
              refine mm_pop (pc := 64) dX11_feud_64 rfl ?_
              refine mm_iconst (pc := 65) (x := 0) dX11_feud_65 rfl ?_
              exact mm_zret (pc := 66) dX11_feud_66 rfl rfl (Nat.le_refl 0) (Nat.le_refl 0) ⟨_, rfl, rfl, hG, h⟩
set_option maxRecDepth 100000 in
set_option maxHeartbeats 4000000 in
theorem rX11_bring {d : Nat} {x1 : Int32} {x2 : Int32} {M : mm_M} {K : Int32 → mm_M → Prop} (hG : mm_G M.2.2) (h : mm_CI mX11_isHouse d [.ref 0, .int x1] M (fun z2 m2 => if z2 = 0 then (mm_CI mX11_refuse d [.ref 0, .int 2] m2 (fun z44 m44 => K 0 m44)) else (mm_CI mX9_isThere d [.ref 37, .int x1] m2 (fun z13 m13 => if z13 = 0 then (mm_CI mX11_refuse d [.ref 0, .int 2] m13 (fun z44 m44 => K 0 m44)) else (if x2 < 0 then (mm_CI mX11_refuse d [.ref 0, .int 2] m13 (fun z44 m44 => K 0 m44)) else (if 99 < x2 then (mm_CI mX11_refuse d [.ref 0, .int 2] m13 (fun z44 m44 => K 0 m44)) else (vp_in x1 7 ∧ if (m13.1 38 x1.toNatClampNeg) = x2 then (mm_CI mX11_refuse d [.ref 0, .int 2] m13 (fun z44 m44 => K 0 m44)) else (mm_CV mX11_beginAct d [.ref 0] m13 (fun m51 => vp_in x1 7 ∧ K 1 (mm_uI m51 38 x1.toNatClampNeg x2)))))))))) : mm_CI mX11_bring (d + 1) [.ref 0, .int x1, .int x2] M K := by
  show mm_W mX11_bring (d + 1) 0 0 0 [(0, .ref 0), (1, .int x1), (2, .int x2)] [] mm_SH M 0 0 (mm_PI K)
  refine mm_aload_n (pc := 0) (j := 0) dX11_bring_0 rfl rfl ?_
  refine mm_iload_n (pc := 1) (j := 1) dX11_bring_1 rfl rfl ?_
  refine mm_kVI (pc := 2) [.int x1] dX11_bring_2 kX11_171 rfl sh_0 (Nat.le_of_ble_eq_true rfl) (Nat.le_of_ble_eq_true rfl) h (fun z2 m2 hG h => ?_)
  refine mm_if_eq (pc := 5) (tgt := 42) dX11_bring_5 (by decide) (fun hc => ?_) (fun hc => ?_)
  · have h := mm_ift hc h
    refine mm_aload_n (pc := 42) (j := 0) dX11_bring_42 rfl rfl ?_
    refine mm_iconst (pc := 43) (x := 2) dX11_bring_43 rfl ?_
    refine mm_kVI (pc := 44) [.int 2] dX11_bring_44 kX11_97 rfl sh_0 (Nat.le_of_ble_eq_true rfl) (Nat.le_of_ble_eq_true rfl) h (fun z44 m44 hG h => ?_)
    refine mm_pop (pc := 47) dX11_bring_47 rfl ?_
    refine mm_iconst (pc := 48) (x := 0) dX11_bring_48 rfl ?_
    exact mm_zret (pc := 49) dX11_bring_49 rfl rfl (Nat.le_refl 0) (Nat.le_refl 0) ⟨_, rfl, rfl, hG, h⟩
  · have h := mm_iff hc h
    refine mm_aload_n (pc := 8) (j := 0) dX11_bring_8 rfl rfl ?_
    refine mm_getR (pc := 9) (ci := 11) (N := 19) (r := 37) dX11_bring_9 fX11_59 sh_0 rfl (g_0_12 hG) ?_
    refine mm_iload_n (pc := 12) (j := 1) dX11_bring_12 rfl rfl ?_
    refine mm_kVI (pc := 13) [.int x1] dX11_bring_13 kX11_187 rfl sh_37 (Nat.le_of_ble_eq_true rfl) (Nat.le_of_ble_eq_true rfl) h (fun z13 m13 hG h => ?_)
    refine mm_if_eq (pc := 16) (tgt := 42) dX11_bring_16 (by decide) (fun hc => ?_) (fun hc => ?_)
    · have h := mm_ift hc h
      refine mm_aload_n (pc := 42) (j := 0) dX11_bring_42 rfl rfl ?_
      refine mm_iconst (pc := 43) (x := 2) dX11_bring_43 rfl ?_
      refine mm_kVI (pc := 44) [.int 2] dX11_bring_44 kX11_97 rfl sh_0 (Nat.le_of_ble_eq_true rfl) (Nat.le_of_ble_eq_true rfl) h (fun z44 m44 hG h => ?_)
      refine mm_pop (pc := 47) dX11_bring_47 rfl ?_
      refine mm_iconst (pc := 48) (x := 0) dX11_bring_48 rfl ?_
      exact mm_zret (pc := 49) dX11_bring_49 rfl rfl (Nat.le_refl 0) (Nat.le_refl 0) ⟨_, rfl, rfl, hG, h⟩
    · have h := mm_iff hc h
      refine mm_iload_n (pc := 19) (j := 2) dX11_bring_19 rfl rfl ?_
      refine mm_if_lt (pc := 20) (tgt := 42) dX11_bring_20 (by decide) (fun hc => ?_) (fun hc => ?_)
      · have h := mm_ift hc h
        refine mm_aload_n (pc := 42) (j := 0) dX11_bring_42 rfl rfl ?_
        refine mm_iconst (pc := 43) (x := 2) dX11_bring_43 rfl ?_
        refine mm_kVI (pc := 44) [.int 2] dX11_bring_44 kX11_97 rfl sh_0 (Nat.le_of_ble_eq_true rfl) (Nat.le_of_ble_eq_true rfl) h (fun z44 m44 hG h => ?_)
        refine mm_pop (pc := 47) dX11_bring_47 rfl ?_
        refine mm_iconst (pc := 48) (x := 0) dX11_bring_48 rfl ?_
        exact mm_zret (pc := 49) dX11_bring_49 rfl rfl (Nat.le_refl 0) (Nat.le_refl 0) ⟨_, rfl, rfl, hG, h⟩
      · have h := mm_iff hc h
        refine mm_iload_n (pc := 23) (j := 2) dX11_bring_23 rfl rfl ?_
        refine mm_bipush (pc := 24) (x := 99) dX11_bring_24 rfl ?_
        refine mm_icmp_gt (pc := 26) (tgt := 42) dX11_bring_26 (by decide) (fun hc => ?_) (fun hc => ?_)
        · have h := mm_ift hc h
          refine mm_aload_n (pc := 42) (j := 0) dX11_bring_42 rfl rfl ?_
          refine mm_iconst (pc := 43) (x := 2) dX11_bring_43 rfl ?_
          refine mm_kVI (pc := 44) [.int 2] dX11_bring_44 kX11_97 rfl sh_0 (Nat.le_of_ble_eq_true rfl) (Nat.le_of_ble_eq_true rfl) h (fun z44 m44 hG h => ?_)
          refine mm_pop (pc := 47) dX11_bring_47 rfl ?_
          refine mm_iconst (pc := 48) (x := 0) dX11_bring_48 rfl ?_
          exact mm_zret (pc := 49) dX11_bring_49 rfl rfl (Nat.le_refl 0) (Nat.le_refl 0) ⟨_, rfl, rfl, hG, h⟩
        · have h := mm_iff hc h
          refine mm_aload_n (pc := 29) (j := 0) dX11_bring_29 rfl rfl ?_
          refine mm_getR (pc := 30) (ci := 11) (N := 19) (r := 37) dX11_bring_30 fX11_59 sh_0 rfl (g_0_12 hG) ?_
          refine mm_getR (pc := 33) (ci := 9) (N := 7) (r := 38) dX11_bring_33 fX11_178 sh_37 rfl (g_37_3 hG) ?_
          refine mm_iload_n (pc := 36) (j := 1) dX11_bring_36 rfl rfl ?_
          obtain ⟨hi37, h⟩ := h
          refine mm_iaload (pc := 37) (N := 7) dX11_bring_37 sh_38 hi37 ?_
          refine mm_iload_n (pc := 38) (j := 2) dX11_bring_38 rfl rfl ?_
          refine mm_icmp_ne (pc := 39) (tgt := 50) dX11_bring_39 (by decide) (fun hc => ?_) (fun hc => ?_)
          · have h := mm_iff hc h
            refine mm_aload_n (pc := 50) (j := 0) dX11_bring_50 rfl rfl ?_
            refine mm_kVV (pc := 51) [] dX11_bring_51 kX11_301 rfl sh_0 (Nat.le_of_ble_eq_true rfl) (Nat.le_of_ble_eq_true rfl) h (fun m51 hG h => ?_)
            refine mm_aload_n (pc := 54) (j := 0) dX11_bring_54 rfl rfl ?_
            refine mm_getR (pc := 55) (ci := 11) (N := 19) (r := 37) dX11_bring_55 fX11_59 sh_0 rfl (g_0_12 hG) ?_
            refine mm_getR (pc := 58) (ci := 9) (N := 7) (r := 38) dX11_bring_58 fX11_178 sh_37 rfl (g_37_3 hG) ?_
            refine mm_iload_n (pc := 61) (j := 1) dX11_bring_61 rfl rfl ?_
            refine mm_iload_n (pc := 62) (j := 2) dX11_bring_62 rfl rfl ?_
            obtain ⟨hi63, h⟩ := h
            refine mm_iastore (pc := 63) (N := 7) dX11_bring_63 sh_38 hi63 ?_
            refine mm_iconst (pc := 64) (x := 1) dX11_bring_64 rfl ?_
            exact mm_zret (pc := 65) dX11_bring_65 rfl rfl (Nat.le_refl 0) (Nat.le_refl 0) ⟨_, rfl, rfl, hG, h⟩
          · have h := mm_ift hc h
            refine mm_aload_n (pc := 42) (j := 0) dX11_bring_42 rfl rfl ?_
            refine mm_iconst (pc := 43) (x := 2) dX11_bring_43 rfl ?_
            refine mm_kVI (pc := 44) [.int 2] dX11_bring_44 kX11_97 rfl sh_0 (Nat.le_of_ble_eq_true rfl) (Nat.le_of_ble_eq_true rfl) h (fun z44 m44 hG h => ?_)
            refine mm_pop (pc := 47) dX11_bring_47 rfl ?_
            refine mm_iconst (pc := 48) (x := 0) dX11_bring_48 rfl ?_
            exact mm_zret (pc := 49) dX11_bring_49 rfl rfl (Nat.le_refl 0) (Nat.le_refl 0) ⟨_, rfl, rfl, hG, h⟩
def jX11_days_22 (d : Nat) (x1 : Int32) (M : mm_M) (K : Int32 → mm_M → Prop) (y1 : Int32) (y2 : Int32) (y3 : Int32) : Prop := mm_W mX11_days (d + 1) 0 0 22 [(0, .ref 0), (1, .int y1), (2, .int y2), (3, .int y3)] [] mm_SH M 0 0 (mm_PI K)
set_option maxRecDepth 100000 in
set_option maxHeartbeats 4000000 in
theorem rX11_days {d : Nat} {x1 : Int32} {M : mm_M} {K : Int32 → mm_M → Prop} (hG : mm_G M.2.2) (h : mm_CI mX11_canPass d [.ref 0, .int x1] M (fun z2 m2 => if z2 = 0 then (mm_CI mX11_refuse d [.ref 0, .int 3] m2 (fun z10 m10 => K z10 m10)) else (mm_CV mX11_beginAct d [.ref 0] m2 (fun m15 => jX11_days_22 d x1 m15 K x1 0 0)))) : mm_CI mX11_days (d + 1) [.ref 0, .int x1] M K := by
  show mm_W mX11_days (d + 1) 0 0 0 [(0, .ref 0), (1, .int x1)] [] mm_SH M 0 0 (mm_PI K)
  refine mm_aload_n (pc := 0) (j := 0) dX11_days_0 rfl rfl ?_
  refine mm_iload_n (pc := 1) (j := 1) dX11_days_1 rfl rfl ?_
  refine mm_kVI (pc := 2) [.int x1] dX11_days_2 kX11_308 rfl sh_0 (Nat.le_of_ble_eq_true rfl) (Nat.le_of_ble_eq_true rfl) h (fun z2 m2 hG h => ?_)
  refine mm_if_ne (pc := 5) (tgt := 14) dX11_days_5 (by decide) (fun hc => ?_) (fun hc => ?_)
  · have h := mm_iff hc h
    refine mm_aload_n (pc := 14) (j := 0) dX11_days_14 rfl rfl ?_
    refine mm_kVV (pc := 15) [] dX11_days_15 kX11_301 rfl sh_0 (Nat.le_of_ble_eq_true rfl) (Nat.le_of_ble_eq_true rfl) h (fun m15 hG h => ?_)
    refine mm_iconst (pc := 18) (x := 0) dX11_days_18 rfl ?_
    refine mm_istore_n (pc := 19) (lv' := [(2, .int 0), (0, .ref 0), (1, .int x1)]) dX11_days_19 rfl (by decide) rfl ?_
    refine mm_iconst (pc := 20) (x := 0) dX11_days_20 rfl ?_
    refine mm_istore_n (pc := 21) (lv' := [(3, .int 0), (2, .int 0), (0, .ref 0), (1, .int x1)]) dX11_days_21 rfl (by decide) rfl ?_
    exact mm_sub [2, 3, 1, 0] rfl h
  · have h := mm_ift hc h
    refine mm_aload_n (pc := 8) (j := 0) dX11_days_8 rfl rfl ?_
    refine mm_iconst (pc := 9) (x := 3) dX11_days_9 rfl ?_
    refine mm_kVI (pc := 10) [.int 3] dX11_days_10 kX11_97 rfl sh_0 (Nat.le_of_ble_eq_true rfl) (Nat.le_of_ble_eq_true rfl) h (fun z10 m10 hG h => ?_)
    exact mm_iret (pc := 13) dX11_days_13 rfl (Nat.le_refl 0) (Nat.le_refl 0) ⟨_, rfl, rfl, hG, h⟩
set_option maxRecDepth 100000 in
set_option maxHeartbeats 4000000 in
theorem lX11_days_22 {d : Nat} {x1 : Int32} {M : mm_M} {K : Int32 → mm_M → Prop} {y1 : Int32} {y2 : Int32} {y3 : Int32} (hG : mm_G M.2.2) (h : if y1 ≤ y3 then (K y2 M) else (mm_CV mX1_run d [.ref 21, .ref 37, .int 0, .int 1] M (fun m37 => jX11_days_22 d x1 m37 K y1 (y2 + (m37.1 21 4)) (y3 + 1)))) : jX11_days_22 d x1 M K y1 y2 y3 := by
  unfold jX11_days_22
  refine mm_iload_n (pc := 22) (j := 3) dX11_days_22 rfl rfl ?_
  refine mm_iload_n (pc := 23) (j := 1) dX11_days_23 rfl rfl ?_
  refine mm_icmp_ge (pc := 24) (tgt := 56) dX11_days_24 (by decide) (fun hc => ?_) (fun hc => ?_)
  · have h := mm_ift hc h
    refine mm_iload_n (pc := 56) (j := 2) dX11_days_56 rfl rfl ?_
    exact mm_iret (pc := 57) dX11_days_57 rfl (Nat.le_refl 0) (Nat.le_refl 0) ⟨_, rfl, rfl, hG, h⟩
  · have h := mm_iff hc h
    refine mm_aload_n (pc := 27) (j := 0) dX11_days_27 rfl rfl ?_
    refine mm_getR (pc := 28) (ci := 11) (N := 19) (r := 21) dX11_days_28 fX11_49 sh_0 rfl (g_0_10 hG) ?_
    refine mm_aload_n (pc := 31) (j := 0) dX11_days_31 rfl rfl ?_
    refine mm_getR (pc := 32) (ci := 11) (N := 19) (r := 37) dX11_days_32 fX11_59 sh_0 rfl (g_0_12 hG) ?_
    refine mm_iconst (pc := 35) (x := 0) dX11_days_35 rfl ?_
    refine mm_iconst (pc := 36) (x := 1) dX11_days_36 rfl ?_
    refine mm_kVV (pc := 37) [.ref 37, .int 0, .int 1] dX11_days_37 kX11_227 rfl sh_21 (Nat.le_of_ble_eq_true rfl) (Nat.le_of_ble_eq_true rfl) h (fun m37 hG h => ?_)
    refine mm_iload_n (pc := 40) (j := 2) dX11_days_40 rfl rfl ?_
    refine mm_aload_n (pc := 41) (j := 0) dX11_days_41 rfl rfl ?_
    refine mm_getR (pc := 42) (ci := 11) (N := 19) (r := 21) dX11_days_42 fX11_49 sh_0 rfl (g_0_10 hG) ?_
    refine mm_getI (pc := 45) (ci := 1) (N := 5) dX11_days_45 fX11_311 sh_21 rfl ?_
    refine mm_iadd (pc := 48) dX11_days_48 ?_
    refine mm_istore_n (pc := 49) (lv' := [(2, .int (y2 + (m37.1 21 4))), (0, .ref 0), (1, .int y1), (3, .int y3)]) dX11_days_49 rfl (by decide) rfl ?_
    refine mm_iinc (pc := 50) (j := 3) (v := y3 + 1) (lv' := [(3, .int (y3 + 1)), (2, .int (y2 + (m37.1 21 4))), (0, .ref 0), (1, .int y1)]) dX11_days_50 rfl rfl (by decide) rfl ?_
    refine mm_goto (pc := 53) (tgt := 22) dX11_days_53 (by decide) ?_
    exact mm_sub [2, 3, 1, 0] rfl h
def jX11_chance_22 (d : Nat) (x1 : Int32) (M : mm_M) (K : Int32 → mm_M → Prop) (y1 : Int32) (y2 : Int32) (y3 : Int32) : Prop := mm_W mX11_chance (d + 1) 0 0 22 [(0, .ref 0), (1, .int y1), (2, .int y2), (3, .int y3)] [] mm_SH M 0 0 (mm_PI K)
set_option maxRecDepth 100000 in
set_option maxHeartbeats 4000000 in
theorem rX11_chance {d : Nat} {x1 : Int32} {M : mm_M} {K : Int32 → mm_M → Prop} (hG : mm_G M.2.2) (h : mm_CI mX11_canPass d [.ref 0, .int x1] M (fun z2 m2 => if z2 = 0 then (mm_CI mX11_refuse d [.ref 0, .int 3] m2 (fun z10 m10 => K z10 m10)) else (mm_CV mX11_beginAct d [.ref 0] m2 (fun m15 => jX11_chance_22 d x1 m15 K x1 0 0)))) : mm_CI mX11_chance (d + 1) [.ref 0, .int x1] M K := by
  show mm_W mX11_chance (d + 1) 0 0 0 [(0, .ref 0), (1, .int x1)] [] mm_SH M 0 0 (mm_PI K)
  refine mm_aload_n (pc := 0) (j := 0) dX11_chance_0 rfl rfl ?_
  refine mm_iload_n (pc := 1) (j := 1) dX11_chance_1 rfl rfl ?_
  refine mm_kVI (pc := 2) [.int x1] dX11_chance_2 kX11_308 rfl sh_0 (Nat.le_of_ble_eq_true rfl) (Nat.le_of_ble_eq_true rfl) h (fun z2 m2 hG h => ?_)
  refine mm_if_ne (pc := 5) (tgt := 14) dX11_chance_5 (by decide) (fun hc => ?_) (fun hc => ?_)
  · have h := mm_iff hc h
    refine mm_aload_n (pc := 14) (j := 0) dX11_chance_14 rfl rfl ?_
    refine mm_kVV (pc := 15) [] dX11_chance_15 kX11_301 rfl sh_0 (Nat.le_of_ble_eq_true rfl) (Nat.le_of_ble_eq_true rfl) h (fun m15 hG h => ?_)
    refine mm_iconst (pc := 18) (x := 0) dX11_chance_18 rfl ?_
    refine mm_istore_n (pc := 19) (lv' := [(2, .int 0), (0, .ref 0), (1, .int x1)]) dX11_chance_19 rfl (by decide) rfl ?_
    refine mm_iconst (pc := 20) (x := 0) dX11_chance_20 rfl ?_
    refine mm_istore_n (pc := 21) (lv' := [(3, .int 0), (2, .int 0), (0, .ref 0), (1, .int x1)]) dX11_chance_21 rfl (by decide) rfl ?_
    exact mm_sub [2, 3, 1, 0] rfl h
  · have h := mm_ift hc h
    refine mm_aload_n (pc := 8) (j := 0) dX11_chance_8 rfl rfl ?_
    refine mm_iconst (pc := 9) (x := 3) dX11_chance_9 rfl ?_
    refine mm_kVI (pc := 10) [.int 3] dX11_chance_10 kX11_97 rfl sh_0 (Nat.le_of_ble_eq_true rfl) (Nat.le_of_ble_eq_true rfl) h (fun z10 m10 hG h => ?_)
    exact mm_iret (pc := 13) dX11_chance_13 rfl (Nat.le_refl 0) (Nat.le_refl 0) ⟨_, rfl, rfl, hG, h⟩
set_option maxRecDepth 100000 in
set_option maxHeartbeats 4000000 in
theorem lX11_chance_22 {d : Nat} {x1 : Int32} {M : mm_M} {K : Int32 → mm_M → Prop} {y1 : Int32} {y2 : Int32} {y3 : Int32} (hG : mm_G M.2.2) (h : if y1 ≤ y3 then (K y2 M) else (mm_CI mX11_draw d [.ref 0, .int 100] M (fun z30 m30 => ∃ q34 : Nat, m30.2.2 0 11 = some q34 ∧ q34 ∈ mm_Rls ∧ if (m30.1 q34 3) ≤ z30 then (mm_CV mX1_run d [.ref 21, .ref 37, .int 0, .int 1] m30 (fun m101 => jX11_chance_22 d x1 m101 K y1 y2 (y3 + 1))) else (∃ q44 : Nat, m30.2.2 0 11 = some q44 ∧ q44 ∈ mm_Rls ∧ if (m30.1 q44 2) ≤ 0 then (mm_CV mX1_run d [.ref 21, .ref 37, .int 0, .int 1] m30 (fun m101 => jX11_chance_22 d x1 m101 K y1 y2 (y3 + 1))) else (∃ q55 : Nat, m30.2.2 0 11 = some q55 ∧ q55 ∈ mm_Rls ∧ mm_CI mX11_draw d [.ref 0, .int (m30.1 q55 2)] m30 (fun z61 m61 => vp_in z61 7 ∧ vp_in z61 7 ∧ mm_CV mX1_run d [.ref 21, .ref 37, .int 0, .int 1] (mm_uI m61 38 z61.toNatClampNeg ((m61.1 38 z61.toNatClampNeg) / 2)) (fun m101 => jX11_chance_22 d x1 m101 K y1 (y2 + 1) (y3 + 1)))))))) : jX11_chance_22 d x1 M K y1 y2 y3 := by
  unfold jX11_chance_22
  refine mm_iload_n (pc := 22) (j := 3) dX11_chance_22 rfl rfl ?_
  refine mm_iload_n (pc := 23) (j := 1) dX11_chance_23 rfl rfl ?_
  refine mm_icmp_ge (pc := 24) (tgt := 110) dX11_chance_24 (by decide) (fun hc => ?_) (fun hc => ?_)
  · have h := mm_ift hc h
    refine mm_iload_n (pc := 110) (j := 2) dX11_chance_110 rfl rfl ?_
    exact mm_iret (pc := 111) dX11_chance_111 rfl (Nat.le_refl 0) (Nat.le_refl 0) ⟨_, rfl, rfl, hG, h⟩
  · have h := mm_iff hc h
    refine mm_aload_n (pc := 27) (j := 0) dX11_chance_27 rfl rfl ?_
    refine mm_bipush (pc := 28) (x := 100) dX11_chance_28 rfl ?_
    refine mm_kVI (pc := 30) [.int 100] dX11_chance_30 kX11_314 rfl sh_0 (Nat.le_of_ble_eq_true rfl) (Nat.le_of_ble_eq_true rfl) h (fun z30 m30 hG h => ?_)
    refine mm_aload_n (pc := 33) (j := 0) dX11_chance_33 rfl rfl ?_
    obtain ⟨q34, he34, hq34, h⟩ := h
    refine mm_getR (pc := 34) (ci := 11) (N := 19) (r := q34) dX11_chance_34 fX11_57 sh_0 rfl he34 ?_
    refine mm_getI (pc := 37) (ci := 7) (N := 11) dX11_chance_37 fX11_317 (sh_Rl hq34) rfl ?_
    refine mm_icmp_ge (pc := 40) (tgt := 91) dX11_chance_40 (by decide) (fun hc => ?_) (fun hc => ?_)
    · have h := mm_ift hc h
      refine mm_aload_n (pc := 91) (j := 0) dX11_chance_91 rfl rfl ?_
      refine mm_getR (pc := 92) (ci := 11) (N := 19) (r := 21) dX11_chance_92 fX11_49 sh_0 rfl (g_0_10 hG) ?_
      refine mm_aload_n (pc := 95) (j := 0) dX11_chance_95 rfl rfl ?_
      refine mm_getR (pc := 96) (ci := 11) (N := 19) (r := 37) dX11_chance_96 fX11_59 sh_0 rfl (g_0_12 hG) ?_
      refine mm_iconst (pc := 99) (x := 0) dX11_chance_99 rfl ?_
      refine mm_iconst (pc := 100) (x := 1) dX11_chance_100 rfl ?_
      refine mm_kVV (pc := 101) [.ref 37, .int 0, .int 1] dX11_chance_101 kX11_227 rfl sh_21 (Nat.le_of_ble_eq_true rfl) (Nat.le_of_ble_eq_true rfl) h (fun m101 hG h => ?_)
      refine mm_iinc (pc := 104) (j := 3) (v := y3 + 1) (lv' := [(3, .int (y3 + 1)), (0, .ref 0), (1, .int y1), (2, .int y2)]) dX11_chance_104 rfl rfl (by decide) rfl ?_
      refine mm_goto (pc := 107) (tgt := 22) dX11_chance_107 (by decide) ?_
      exact mm_sub [1, 2, 3, 0] rfl h
    · have h := mm_iff hc h
      refine mm_aload_n (pc := 43) (j := 0) dX11_chance_43 rfl rfl ?_
      obtain ⟨q44, he44, hq44, h⟩ := h
      refine mm_getR (pc := 44) (ci := 11) (N := 19) (r := q44) dX11_chance_44 fX11_57 sh_0 rfl he44 ?_
      refine mm_getI (pc := 47) (ci := 7) (N := 11) dX11_chance_47 fX11_148 (sh_Rl hq44) rfl ?_
      refine mm_if_le (pc := 50) (tgt := 91) dX11_chance_50 (by decide) (fun hc => ?_) (fun hc => ?_)
      · have h := mm_ift hc h
        refine mm_aload_n (pc := 91) (j := 0) dX11_chance_91 rfl rfl ?_
        refine mm_getR (pc := 92) (ci := 11) (N := 19) (r := 21) dX11_chance_92 fX11_49 sh_0 rfl (g_0_10 hG) ?_
        refine mm_aload_n (pc := 95) (j := 0) dX11_chance_95 rfl rfl ?_
        refine mm_getR (pc := 96) (ci := 11) (N := 19) (r := 37) dX11_chance_96 fX11_59 sh_0 rfl (g_0_12 hG) ?_
        refine mm_iconst (pc := 99) (x := 0) dX11_chance_99 rfl ?_
        refine mm_iconst (pc := 100) (x := 1) dX11_chance_100 rfl ?_
        refine mm_kVV (pc := 101) [.ref 37, .int 0, .int 1] dX11_chance_101 kX11_227 rfl sh_21 (Nat.le_of_ble_eq_true rfl) (Nat.le_of_ble_eq_true rfl) h (fun m101 hG h => ?_)
        refine mm_iinc (pc := 104) (j := 3) (v := y3 + 1) (lv' := [(3, .int (y3 + 1)), (0, .ref 0), (1, .int y1), (2, .int y2)]) dX11_chance_104 rfl rfl (by decide) rfl ?_
        refine mm_goto (pc := 107) (tgt := 22) dX11_chance_107 (by decide) ?_
        exact mm_sub [1, 2, 3, 0] rfl h
      · have h := mm_iff hc h
        refine mm_aload_n (pc := 53) (j := 0) dX11_chance_53 rfl rfl ?_
        refine mm_aload_n (pc := 54) (j := 0) dX11_chance_54 rfl rfl ?_
        obtain ⟨q55, he55, hq55, h⟩ := h
        refine mm_getR (pc := 55) (ci := 11) (N := 19) (r := q55) dX11_chance_55 fX11_57 sh_0 rfl he55 ?_
        refine mm_getI (pc := 58) (ci := 7) (N := 11) dX11_chance_58 fX11_148 (sh_Rl hq55) rfl ?_
        refine mm_kVI (pc := 61) [.int (m30.1 q55 2)] dX11_chance_61 kX11_314 rfl sh_0 (Nat.le_of_ble_eq_true rfl) (Nat.le_of_ble_eq_true rfl) h (fun z61 m61 hG h => ?_)
        refine mm_istore (pc := 64) (lv' := [(4, .int z61), (0, .ref 0), (1, .int y1), (2, .int y2), (3, .int y3)]) dX11_chance_64 (by decide) rfl ?_
        refine mm_aload_n (pc := 66) (j := 1) dX11_chance_66 rfl rfl ?_
        refine mm_getR (pc := 67) (ci := 11) (N := 19) (r := 37) dX11_chance_67 fX11_59 sh_0 rfl (g_0_12 hG) ?_
        refine mm_getR (pc := 70) (ci := 9) (N := 7) (r := 38) dX11_chance_70 fX11_178 sh_37 rfl (g_37_3 hG) ?_
        refine mm_iload (pc := 73) (j := 0) dX11_chance_73 rfl ?_
        refine mm_aload_n (pc := 75) (j := 1) dX11_chance_75 rfl rfl ?_
        refine mm_getR (pc := 76) (ci := 11) (N := 19) (r := 37) dX11_chance_76 fX11_59 sh_0 rfl (g_0_12 hG) ?_
        refine mm_getR (pc := 79) (ci := 9) (N := 7) (r := 38) dX11_chance_79 fX11_178 sh_37 rfl (g_37_3 hG) ?_
        refine mm_iload (pc := 82) (j := 0) dX11_chance_82 rfl ?_
        obtain ⟨hi84, h⟩ := h
        refine mm_iaload (pc := 84) (N := 7) dX11_chance_84 sh_38 hi84 ?_
        refine mm_iconst (pc := 85) (x := 2) dX11_chance_85 rfl ?_
        refine mm_idiv (pc := 86) dX11_chance_86 (by decide) ?_
        obtain ⟨hi87, h⟩ := h
        refine mm_iastore (pc := 87) (N := 7) dX11_chance_87 sh_38 hi87 ?_
        refine mm_iinc (pc := 88) (j := 3) (v := y2 + 1) (lv' := [(2, .int (y2 + 1)), (4, .int z61), (0, .ref 0), (1, .int y1), (3, .int y3)]) dX11_chance_88 rfl rfl (by decide) rfl ?_
        refine mm_aload_n (pc := 91) (j := 2) dX11_chance_91 rfl rfl ?_
        refine mm_getR (pc := 92) (ci := 11) (N := 19) (r := 21) dX11_chance_92 fX11_49 sh_0 rfl (g_0_10 hG) ?_
        refine mm_aload_n (pc := 95) (j := 2) dX11_chance_95 rfl rfl ?_
        refine mm_getR (pc := 96) (ci := 11) (N := 19) (r := 37) dX11_chance_96 fX11_59 sh_0 rfl (g_0_12 hG) ?_
        refine mm_iconst (pc := 99) (x := 0) dX11_chance_99 rfl ?_
        refine mm_iconst (pc := 100) (x := 1) dX11_chance_100 rfl ?_
        refine mm_kVV (pc := 101) [.ref 37, .int 0, .int 1] dX11_chance_101 kX11_227 rfl sh_21 (Nat.le_of_ble_eq_true rfl) (Nat.le_of_ble_eq_true rfl) h (fun m101 hG h => ?_)
        refine mm_iinc (pc := 104) (j := 4) (v := y3 + 1) (lv' := [(3, .int (y3 + 1)), (2, .int (y2 + 1)), (4, .int z61), (0, .ref 0), (1, .int y1)]) dX11_chance_104 rfl rfl (by decide) rfl ?_
        refine mm_goto (pc := 107) (tgt := 22) dX11_chance_107 (by decide) ?_
        exact mm_sub [3, 4, 1, 0] rfl h
set_option maxRecDepth 100000 in
set_option maxHeartbeats 4000000 in
theorem rX11_undo {d : Nat} {M : mm_M} {K : Int32 → mm_M → Prop} (hG : mm_G M.2.2) (h : mm_CI mX4_goBack d [.ref 47, .ref 37] M (fun z8 m8 => if z8 = 0 then (mm_CI mX11_refuse d [.ref 0, .int 4] m8 (fun z16 m16 => K 0 m16)) else (K 1 (mm_uI m8 0 18 ((m8.1 0 18) + 1))))) : mm_CI mX11_undo (d + 1) [.ref 0] M K := by
  show mm_W mX11_undo (d + 1) 0 0 0 [(0, .ref 0)] [] mm_SH M 0 0 (mm_PI K)
  refine mm_aload_n (pc := 0) (j := 0) dX11_undo_0 rfl rfl ?_
  refine mm_getR (pc := 1) (ci := 11) (N := 19) (r := 47) dX11_undo_1 fX11_69 sh_0 rfl (g_0_14 hG) ?_
  refine mm_aload_n (pc := 4) (j := 0) dX11_undo_4 rfl rfl ?_
  refine mm_getR (pc := 5) (ci := 11) (N := 19) (r := 37) dX11_undo_5 fX11_59 sh_0 rfl (g_0_12 hG) ?_
  refine mm_kVI (pc := 8) [.ref 37] dX11_undo_8 kX11_320 rfl sh_47 (Nat.le_of_ble_eq_true rfl) (Nat.le_of_ble_eq_true rfl) h (fun z8 m8 hG h => ?_)
  refine mm_if_ne (pc := 11) (tgt := 22) dX11_undo_11 (by decide) (fun hc => ?_) (fun hc => ?_)
  · have h := mm_iff hc h
    refine mm_aload_n (pc := 22) (j := 0) dX11_undo_22 rfl rfl ?_
    refine mm_dup (pc := 23) dX11_undo_23 rfl ?_
    refine mm_getI (pc := 24) (ci := 11) (N := 19) dX11_undo_24 fX11_137 sh_0 rfl ?_
    refine mm_iconst (pc := 27) (x := 1) dX11_undo_27 rfl ?_
    refine mm_iadd (pc := 28) dX11_undo_28 ?_
    refine mm_putI (pc := 29) (ci := 11) (N := 19) dX11_undo_29 fX11_137 sh_0 (by decide +kernel) rfl rfl rfl ?_
    refine mm_iconst (pc := 32) (x := 1) dX11_undo_32 rfl ?_
    exact mm_zret (pc := 33) dX11_undo_33 rfl rfl (Nat.le_refl 0) (Nat.le_refl 0) ⟨_, rfl, rfl, hG, h⟩
  · have h := mm_ift hc h
    refine mm_aload_n (pc := 14) (j := 0) dX11_undo_14 rfl rfl ?_
    refine mm_iconst (pc := 15) (x := 4) dX11_undo_15 rfl ?_
    refine mm_kVI (pc := 16) [.int 4] dX11_undo_16 kX11_97 rfl sh_0 (Nat.le_of_ble_eq_true rfl) (Nat.le_of_ble_eq_true rfl) h (fun z16 m16 hG h => ?_)
    refine mm_pop (pc := 19) dX11_undo_19 rfl ?_
    refine mm_iconst (pc := 20) (x := 0) dX11_undo_20 rfl ?_
    exact mm_zret (pc := 21) dX11_undo_21 rfl rfl (Nat.le_refl 0) (Nat.le_refl 0) ⟨_, rfl, rfl, hG, h⟩
set_option maxRecDepth 100000 in
set_option maxHeartbeats 4000000 in
theorem rX11_seed {d : Nat} {x1 : Int32} {M : mm_M} {K : Int32 → mm_M → Prop} (hG : mm_G M.2.2) (h : if 0 ≤ x1 then (K 1 (mm_uI M 0 5 x1)) else (mm_CI mX11_refuse d [.ref 0, .int 5] M (fun z6 m6 => K 0 m6))) : mm_CI mX11_seed (d + 1) [.ref 0, .int x1] M K := by
  show mm_W mX11_seed (d + 1) 0 0 0 [(0, .ref 0), (1, .int x1)] [] mm_SH M 0 0 (mm_PI K)
  refine mm_iload_n (pc := 0) (j := 1) dX11_seed_0 rfl rfl ?_
  refine mm_if_ge (pc := 1) (tgt := 12) dX11_seed_1 (by decide) (fun hc => ?_) (fun hc => ?_)
  · have h := mm_ift hc h
    refine mm_aload_n (pc := 12) (j := 0) dX11_seed_12 rfl rfl ?_
    refine mm_iload_n (pc := 13) (j := 1) dX11_seed_13 rfl rfl ?_
    refine mm_putI (pc := 14) (ci := 11) (N := 19) dX11_seed_14 fX11_20 sh_0 (by decide +kernel) rfl rfl rfl ?_
    refine mm_iconst (pc := 17) (x := 1) dX11_seed_17 rfl ?_
    exact mm_zret (pc := 18) dX11_seed_18 rfl rfl (Nat.le_refl 0) (Nat.le_refl 0) ⟨_, rfl, rfl, hG, h⟩
  · have h := mm_iff hc h
    refine mm_aload_n (pc := 4) (j := 0) dX11_seed_4 rfl rfl ?_
    refine mm_iconst (pc := 5) (x := 5) dX11_seed_5 rfl ?_
    refine mm_kVI (pc := 6) [.int 5] dX11_seed_6 kX11_97 rfl sh_0 (Nat.le_of_ble_eq_true rfl) (Nat.le_of_ble_eq_true rfl) h (fun z6 m6 hG h => ?_)
    refine mm_pop (pc := 9) dX11_seed_9 rfl ?_
    refine mm_iconst (pc := 10) (x := 0) dX11_seed_10 rfl ?_
    exact mm_zret (pc := 11) dX11_seed_11 rfl rfl (Nat.le_refl 0) (Nat.le_refl 0) ⟨_, rfl, rfl, hG, h⟩
set_option maxRecDepth 100000 in
set_option maxHeartbeats 4000000 in
theorem rX11_ask {d : Nat} {M : mm_M} {K : Int64 → mm_M → Prop} (hG : mm_G M.2.2) (h : mm_CI mX11_takeTape d [.ref 0] M (fun z1 m1 => mm_CI mX11_hasDuchy d [.ref 0] m1 (fun z6 m6 => if z6 = 0 then (K (-1000000000000000) m6) else (mm_CV mX0_read d [.ref 16, .ref 1, .int z1] m6 (fun m25 => mm_CV mX11_noteFault d [.ref 0, .ref 17] m25 (fun m36 => if (m36.1 0 3) = 0 then (mm_CL mX0_answer d [.ref 16, .ref 21, .ref 37] m36 (fun z58 m58 => K z58 m58)) else (K (-1000000000000000) m36))))))) : mm_CL mX11_ask (d + 1) [.ref 0] M K := by
  show mm_W mX11_ask (d + 1) 0 0 0 [(0, .ref 0)] [] mm_SH M 0 0 (mm_PL K)
  refine mm_aload_n (pc := 0) (j := 0) dX11_ask_0 rfl rfl ?_
  refine mm_kVI (pc := 1) [] dX11_ask_1 kX11_104 rfl sh_0 (Nat.le_of_ble_eq_true rfl) (Nat.le_of_ble_eq_true rfl) h (fun z1 m1 hG h => ?_)
  refine mm_istore_n (pc := 4) (lv' := [(1, .int z1), (0, .ref 0)]) dX11_ask_4 rfl (by decide) rfl ?_
  refine mm_aload_n (pc := 5) (j := 1) dX11_ask_5 rfl rfl ?_
  refine mm_kVI (pc := 6) [] dX11_ask_6 kX11_230 rfl sh_0 (Nat.le_of_ble_eq_true rfl) (Nat.le_of_ble_eq_true rfl) h (fun z6 m6 hG h => ?_)
  refine mm_if_ne (pc := 9) (tgt := 16) dX11_ask_9 (by decide) (fun hc => ?_) (fun hc => ?_)
  · have h := mm_iff hc h
    refine mm_aload_n (pc := 16) (j := 1) dX11_ask_16 rfl rfl ?_
    refine mm_getR (pc := 17) (ci := 11) (N := 19) (r := 16) dX11_ask_17 fX11_42 sh_0 rfl (g_0_9 hG) ?_
    refine mm_aload_n (pc := 20) (j := 1) dX11_ask_20 rfl rfl ?_
    refine mm_getR (pc := 21) (ci := 11) (N := 19) (r := 1) dX11_ask_21 fX11_9 sh_0 rfl (g_0_0 hG) ?_
    refine mm_iload_n (pc := 24) (j := 0) dX11_ask_24 rfl rfl ?_
    refine mm_kVV (pc := 25) [.ref 1, .int z1] dX11_ask_25 kX11_326 rfl sh_16 (Nat.le_of_ble_eq_true rfl) (Nat.le_of_ble_eq_true rfl) h (fun m25 hG h => ?_)
    refine mm_aload_n (pc := 28) (j := 1) dX11_ask_28 rfl rfl ?_
    refine mm_aload_n (pc := 29) (j := 1) dX11_ask_29 rfl rfl ?_
    refine mm_getR (pc := 30) (ci := 11) (N := 19) (r := 16) dX11_ask_30 fX11_42 sh_0 rfl (g_0_9 hG) ?_
    refine mm_getR (pc := 33) (ci := 0) (N := 3) (r := 17) dX11_ask_33 fX11_327 sh_16 rfl (g_16_0 hG) ?_
    refine mm_kVV (pc := 36) [.ref 17] dX11_ask_36 kX11_116 rfl sh_0 (Nat.le_of_ble_eq_true rfl) (Nat.le_of_ble_eq_true rfl) h (fun m36 hG h => ?_)
    refine mm_aload_n (pc := 39) (j := 1) dX11_ask_39 rfl rfl ?_
    refine mm_getI (pc := 40) (ci := 11) (N := 19) dX11_ask_40 fX11_120 sh_0 rfl ?_
    refine mm_if_ne (pc := 43) (tgt := 64) dX11_ask_43 (by decide) (fun hc => ?_) (fun hc => ?_)
    · have h := mm_iff hc h
      refine mm_ldc2 (pc := 64) (x := (-1000000000000000)) dX11_ask_64 cX11_324 ?_
      exact mm_lret (pc := 67) dX11_ask_67 rfl (Nat.le_refl 0) (Nat.le_refl 0) ⟨_, rfl, rfl, hG, h⟩
    · have h := mm_ift hc h
      refine mm_aload_n (pc := 46) (j := 1) dX11_ask_46 rfl rfl ?_
      refine mm_getR (pc := 47) (ci := 11) (N := 19) (r := 16) dX11_ask_47 fX11_42 sh_0 rfl (g_0_9 hG) ?_
      refine mm_aload_n (pc := 50) (j := 1) dX11_ask_50 rfl rfl ?_
      refine mm_getR (pc := 51) (ci := 11) (N := 19) (r := 21) dX11_ask_51 fX11_49 sh_0 rfl (g_0_10 hG) ?_
      refine mm_aload_n (pc := 54) (j := 1) dX11_ask_54 rfl rfl ?_
      refine mm_getR (pc := 55) (ci := 11) (N := 19) (r := 37) dX11_ask_55 fX11_59 sh_0 rfl (g_0_12 hG) ?_
      refine mm_kVL (pc := 58) [.ref 21, .ref 37] dX11_ask_58 kX11_328 rfl sh_16 (Nat.le_of_ble_eq_true rfl) (Nat.le_of_ble_eq_true rfl) h (fun z58 m58 hG h => ?_)
      refine mm_goto (pc := 61) (tgt := 67) dX11_ask_61 (by decide) ?_
      exact mm_lret (pc := 67) dX11_ask_67 rfl (Nat.le_refl 0) (Nat.le_refl 0) ⟨_, rfl, rfl, hG, h⟩
  · have h := mm_ift hc h
    refine mm_ldc2 (pc := 12) (x := (-1000000000000000)) dX11_ask_12 cX11_324 ?_
    exact mm_lret (pc := 15) dX11_ask_15 rfl (Nat.le_refl 0) (Nat.le_refl 0) ⟨_, rfl, rfl, hG, h⟩
set_option maxRecDepth 100000 in
set_option maxHeartbeats 4000000 in
theorem rX11_image {d : Nat} {M : mm_M} {K : Int32 → mm_M → Prop} (hG : mm_G M.2.2) (h : ∃ q10 : Nat, M.2.2 0 11 = some q10 ∧ q10 ∈ mm_Rls ∧ mm_CI mX9_writeImage d [.ref 37, .ref 3, .int (M.1 q10 2)] M (fun z16 m16 => K ((mm_uI m16 0 7 z16).1 0 7) (mm_uI m16 0 7 z16))) : mm_CI mX11_image (d + 1) [.ref 0] M K := by
  show mm_W mX11_image (d + 1) 0 0 0 [(0, .ref 0)] [] mm_SH M 0 0 (mm_PI K)
  refine mm_aload_n (pc := 0) (j := 0) dX11_image_0 rfl rfl ?_
  refine mm_aload_n (pc := 1) (j := 0) dX11_image_1 rfl rfl ?_
  refine mm_getR (pc := 2) (ci := 11) (N := 19) (r := 37) dX11_image_2 fX11_59 sh_0 rfl (g_0_12 hG) ?_
  refine mm_aload_n (pc := 5) (j := 0) dX11_image_5 rfl rfl ?_
  refine mm_getR (pc := 6) (ci := 11) (N := 19) (r := 3) dX11_image_6 fX11_29 sh_0 rfl (g_0_6 hG) ?_
  refine mm_aload_n (pc := 9) (j := 0) dX11_image_9 rfl rfl ?_
  obtain ⟨q10, he10, hq10, h⟩ := h
  refine mm_getR (pc := 10) (ci := 11) (N := 19) (r := q10) dX11_image_10 fX11_57 sh_0 rfl he10 ?_
  refine mm_getI (pc := 13) (ci := 7) (N := 11) dX11_image_13 fX11_148 (sh_Rl hq10) rfl ?_
  refine mm_kVI (pc := 16) [.ref 3, .int (M.1 q10 2)] dX11_image_16 kX11_332 rfl sh_37 (Nat.le_of_ble_eq_true rfl) (Nat.le_of_ble_eq_true rfl) h (fun z16 m16 hG h => ?_)
  refine mm_putI (pc := 19) (ci := 11) (N := 19) dX11_image_19 fX11_336 sh_0 (by decide +kernel) rfl rfl rfl ?_
  refine mm_aload_n (pc := 22) (j := 0) dX11_image_22 rfl rfl ?_
  refine mm_getI (pc := 23) (ci := 11) (N := 19) dX11_image_23 fX11_336 sh_0 rfl ?_
  exact mm_iret (pc := 26) dX11_image_26 rfl (Nat.le_refl 0) (Nat.le_refl 0) ⟨_, rfl, rfl, hG, h⟩
set_option maxRecDepth 100000 in
set_option maxHeartbeats 4000000 in
theorem rX11_octet {d : Nat} {x1 : Int32} {M : mm_M} {K : Int32 → mm_M → Prop} (hG : mm_G M.2.2) (h : if x1 < 0 then (K (-1) M) else (if (M.1 0 7) ≤ x1 then (K (-1) M) else (vp_in x1 45 ∧ K (M.1 3 x1.toNatClampNeg) M))) : mm_CI mX11_octet d [.ref 0, .int x1] M K := by
  show mm_W mX11_octet d 0 0 0 [(0, .ref 0), (1, .int x1)] [] mm_SH M 0 0 (mm_PI K)
  refine mm_iload_n (pc := 0) (j := 1) dX11_octet_0 rfl rfl ?_
  refine mm_if_lt (pc := 1) (tgt := 21) dX11_octet_1 (by decide) (fun hc => ?_) (fun hc => ?_)
  · have h := mm_ift hc h
    refine mm_iconst (pc := 21) (x := (-1)) dX11_octet_21 rfl ?_
    exact mm_iret (pc := 22) dX11_octet_22 rfl (Nat.le_refl 0) (Nat.le_refl 0) ⟨_, rfl, rfl, hG, h⟩
  · have h := mm_iff hc h
    refine mm_iload_n (pc := 4) (j := 1) dX11_octet_4 rfl rfl ?_
    refine mm_aload_n (pc := 5) (j := 0) dX11_octet_5 rfl rfl ?_
    refine mm_getI (pc := 6) (ci := 11) (N := 19) dX11_octet_6 fX11_336 sh_0 rfl ?_
    refine mm_icmp_ge (pc := 9) (tgt := 21) dX11_octet_9 (by decide) (fun hc => ?_) (fun hc => ?_)
    · have h := mm_ift hc h
      refine mm_iconst (pc := 21) (x := (-1)) dX11_octet_21 rfl ?_
      exact mm_iret (pc := 22) dX11_octet_22 rfl (Nat.le_refl 0) (Nat.le_refl 0) ⟨_, rfl, rfl, hG, h⟩
    · have h := mm_iff hc h
      refine mm_aload_n (pc := 12) (j := 0) dX11_octet_12 rfl rfl ?_
      refine mm_getR (pc := 13) (ci := 11) (N := 19) (r := 3) dX11_octet_13 fX11_29 sh_0 rfl (g_0_6 hG) ?_
      refine mm_iload_n (pc := 16) (j := 1) dX11_octet_16 rfl rfl ?_
      obtain ⟨hi17, h⟩ := h
      refine mm_iaload (pc := 17) (N := 45) dX11_octet_17 sh_3 hi17 ?_
      refine mm_goto (pc := 18) (tgt := 22) dX11_octet_18 (by decide) ?_
      exact mm_iret (pc := 22) dX11_octet_22 rfl (Nat.le_refl 0) (Nat.le_refl 0) ⟨_, rfl, rfl, hG, h⟩
set_option maxRecDepth 100000 in
set_option maxHeartbeats 4000000 in
theorem rX11_on {d : Nat} {M : mm_M} {K : Int32 → mm_M → Prop} (hG : mm_G M.2.2) (h : mm_CI mX11_takeTape d [.ref 0] M (fun z1 m1 => mm_CI mX11_hasDuchy d [.ref 0] m1 (fun z6 m6 => if z6 = 0 then (mm_CI mX11_refuse d [.ref 0, .int 5] m6 (fun z32 m32 => K 0 m32)) else (∃ q18 : Nat, m6.2.2 0 11 = some q18 ∧ q18 ∈ mm_Rls ∧ mm_CI mX9_isImage d [.ref 1, .int z1, .int (m6.1 q18 2)] m6 (fun z24 m24 => if z24 = 0 then (mm_CI mX11_refuse d [.ref 0, .int 5] m24 (fun z32 m32 => K 0 m32)) else (∃ q47 : Nat, m24.2.2 0 11 = some q47 ∧ q47 ∈ mm_Rls ∧ mm_CV mX9_readImage d [.ref 37, .ref 1, .int (m24.1 q47 2)] m24 (fun m53 => K 1 (mm_uI (mm_uI m53 47 2 0) 0 18 (((mm_uI m53 47 2 0).1 0 18) + 1))))))))) : mm_CI mX11_on (d + 1) [.ref 0] M K := by
  show mm_W mX11_on (d + 1) 0 0 0 [(0, .ref 0)] [] mm_SH M 0 0 (mm_PI K)
  refine mm_aload_n (pc := 0) (j := 0) dX11_on_0 rfl rfl ?_
  refine mm_kVI (pc := 1) [] dX11_on_1 kX11_104 rfl sh_0 (Nat.le_of_ble_eq_true rfl) (Nat.le_of_ble_eq_true rfl) h (fun z1 m1 hG h => ?_)
  refine mm_istore_n (pc := 4) (lv' := [(1, .int z1), (0, .ref 0)]) dX11_on_4 rfl (by decide) rfl ?_
  refine mm_aload_n (pc := 5) (j := 1) dX11_on_5 rfl rfl ?_
  refine mm_kVI (pc := 6) [] dX11_on_6 kX11_230 rfl sh_0 (Nat.le_of_ble_eq_true rfl) (Nat.le_of_ble_eq_true rfl) h (fun z6 m6 hG h => ?_)
  refine mm_if_eq (pc := 9) (tgt := 30) dX11_on_9 (by decide) (fun hc => ?_) (fun hc => ?_)
  · have h := mm_ift hc h
    refine mm_aload_n (pc := 30) (j := 1) dX11_on_30 rfl rfl ?_
    refine mm_iconst (pc := 31) (x := 5) dX11_on_31 rfl ?_
    refine mm_kVI (pc := 32) [.int 5] dX11_on_32 kX11_97 rfl sh_0 (Nat.le_of_ble_eq_true rfl) (Nat.le_of_ble_eq_true rfl) h (fun z32 m32 hG h => ?_)
    refine mm_pop (pc := 35) dX11_on_35 rfl ?_
    refine mm_iconst (pc := 36) (x := 0) dX11_on_36 rfl ?_
    exact mm_zret (pc := 37) dX11_on_37 rfl rfl (Nat.le_refl 0) (Nat.le_refl 0) ⟨_, rfl, rfl, hG, h⟩
  · have h := mm_iff hc h
    refine mm_aload_n (pc := 12) (j := 1) dX11_on_12 rfl rfl ?_
    refine mm_getR (pc := 13) (ci := 11) (N := 19) (r := 1) dX11_on_13 fX11_9 sh_0 rfl (g_0_0 hG) ?_
    refine mm_iload_n (pc := 16) (j := 0) dX11_on_16 rfl rfl ?_
    refine mm_aload_n (pc := 17) (j := 1) dX11_on_17 rfl rfl ?_
    obtain ⟨q18, he18, hq18, h⟩ := h
    refine mm_getR (pc := 18) (ci := 11) (N := 19) (r := q18) dX11_on_18 fX11_57 sh_0 rfl he18 ?_
    refine mm_getI (pc := 21) (ci := 7) (N := 11) dX11_on_21 fX11_148 (sh_Rl hq18) rfl ?_
    refine mm_kSI (pc := 24) [.ref 1, .int z1, .int (m6.1 q18 2)] dX11_on_24 kX11_339 rfl (Nat.le_of_ble_eq_true rfl) (Nat.le_of_ble_eq_true rfl) h (fun z24 m24 hG h => ?_)
    refine mm_if_ne (pc := 27) (tgt := 38) dX11_on_27 (by decide) (fun hc => ?_) (fun hc => ?_)
    · have h := mm_iff hc h
      refine mm_aload_n (pc := 38) (j := 1) dX11_on_38 rfl rfl ?_
      refine mm_getR (pc := 39) (ci := 11) (N := 19) (r := 37) dX11_on_39 fX11_59 sh_0 rfl (g_0_12 hG) ?_
      refine mm_aload_n (pc := 42) (j := 1) dX11_on_42 rfl rfl ?_
      refine mm_getR (pc := 43) (ci := 11) (N := 19) (r := 1) dX11_on_43 fX11_9 sh_0 rfl (g_0_0 hG) ?_
      refine mm_aload_n (pc := 46) (j := 1) dX11_on_46 rfl rfl ?_
      obtain ⟨q47, he47, hq47, h⟩ := h
      refine mm_getR (pc := 47) (ci := 11) (N := 19) (r := q47) dX11_on_47 fX11_57 sh_0 rfl he47 ?_
      refine mm_getI (pc := 50) (ci := 7) (N := 11) dX11_on_50 fX11_148 (sh_Rl hq47) rfl ?_
      refine mm_kVV (pc := 53) [.ref 1, .int (m24.1 q47 2)] dX11_on_53 kX11_342 rfl sh_37 (Nat.le_of_ble_eq_true rfl) (Nat.le_of_ble_eq_true rfl) h (fun m53 hG h => ?_)
      refine mm_aload_n (pc := 56) (j := 1) dX11_on_56 rfl rfl ?_
      refine mm_getR (pc := 57) (ci := 11) (N := 19) (r := 47) dX11_on_57 fX11_69 sh_0 rfl (g_0_14 hG) ?_
      refine mm_iconst (pc := 60) (x := 0) dX11_on_60 rfl ?_
      refine mm_putI (pc := 61) (ci := 4) (N := 3) dX11_on_61 fX11_131 sh_47 (by decide +kernel) rfl rfl rfl ?_
      refine mm_aload_n (pc := 64) (j := 1) dX11_on_64 rfl rfl ?_
      refine mm_dup (pc := 65) dX11_on_65 rfl ?_
      refine mm_getI (pc := 66) (ci := 11) (N := 19) dX11_on_66 fX11_137 sh_0 rfl ?_
      refine mm_iconst (pc := 69) (x := 1) dX11_on_69 rfl ?_
      refine mm_iadd (pc := 70) dX11_on_70 ?_
      refine mm_putI (pc := 71) (ci := 11) (N := 19) dX11_on_71 fX11_137 sh_0 (by decide +kernel) rfl rfl rfl ?_
      refine mm_iconst (pc := 74) (x := 1) dX11_on_74 rfl ?_
      exact mm_zret (pc := 75) dX11_on_75 rfl rfl (Nat.le_refl 0) (Nat.le_refl 0) ⟨_, rfl, rfl, hG, h⟩
    · have h := mm_ift hc h
      refine mm_aload_n (pc := 30) (j := 1) dX11_on_30 rfl rfl ?_
      refine mm_iconst (pc := 31) (x := 5) dX11_on_31 rfl ?_
      refine mm_kVI (pc := 32) [.int 5] dX11_on_32 kX11_97 rfl sh_0 (Nat.le_of_ble_eq_true rfl) (Nat.le_of_ble_eq_true rfl) h (fun z32 m32 hG h => ?_)
      refine mm_pop (pc := 35) dX11_on_35 rfl ?_
      refine mm_iconst (pc := 36) (x := 0) dX11_on_36 rfl ?_
      exact mm_zret (pc := 37) dX11_on_37 rfl rfl (Nat.le_refl 0) (Nat.le_refl 0) ⟨_, rfl, rfl, hG, h⟩
set_option maxRecDepth 100000 in
set_option maxHeartbeats 4000000 in
theorem rX11_status {d : Nat} {x1 : Int32} {M : mm_M} {K : Int32 → mm_M → Prop} (hG : mm_G M.2.2) (h : if x1 < 0 then (K (-1) M) else (if (nI 6) ≤ x1 then (K (-1) M) else (vp_in x1 6 ∧ K (M.1 2 x1.toNatClampNeg) M))) : mm_CI mX11_status d [.ref 0, .int x1] M K := by
  show mm_W mX11_status d 0 0 0 [(0, .ref 0), (1, .int x1)] [] mm_SH M 0 0 (mm_PI K)
  refine mm_iload_n (pc := 0) (j := 1) dX11_status_0 rfl rfl ?_
  refine mm_if_lt (pc := 1) (tgt := 22) dX11_status_1 (by decide) (fun hc => ?_) (fun hc => ?_)
  · have h := mm_ift hc h
    refine mm_iconst (pc := 22) (x := (-1)) dX11_status_22 rfl ?_
    exact mm_iret (pc := 23) dX11_status_23 rfl (Nat.le_refl 0) (Nat.le_refl 0) ⟨_, rfl, rfl, hG, h⟩
  · have h := mm_iff hc h
    refine mm_iload_n (pc := 4) (j := 1) dX11_status_4 rfl rfl ?_
    refine mm_aload_n (pc := 5) (j := 0) dX11_status_5 rfl rfl ?_
    refine mm_getR (pc := 6) (ci := 11) (N := 19) (r := 2) dX11_status_6 fX11_13 sh_0 rfl (g_0_2 hG) ?_
    refine mm_alen (pc := 9) (t := 0) (N := 6) dX11_status_9 sh_2 (by decide) ?_
    refine mm_icmp_ge (pc := 10) (tgt := 22) dX11_status_10 (by decide) (fun hc => ?_) (fun hc => ?_)
    · have h := mm_ift hc h
      refine mm_iconst (pc := 22) (x := (-1)) dX11_status_22 rfl ?_
      exact mm_iret (pc := 23) dX11_status_23 rfl (Nat.le_refl 0) (Nat.le_refl 0) ⟨_, rfl, rfl, hG, h⟩
    · have h := mm_iff hc h
      refine mm_aload_n (pc := 13) (j := 0) dX11_status_13 rfl rfl ?_
      refine mm_getR (pc := 14) (ci := 11) (N := 19) (r := 2) dX11_status_14 fX11_13 sh_0 rfl (g_0_2 hG) ?_
      refine mm_iload_n (pc := 17) (j := 1) dX11_status_17 rfl rfl ?_
      obtain ⟨hi18, h⟩ := h
      refine mm_iaload (pc := 18) (N := 6) dX11_status_18 sh_2 hi18 ?_
      refine mm_goto (pc := 19) (tgt := 23) dX11_status_19 (by decide) ?_
      exact mm_iret (pc := 23) dX11_status_23 rfl (Nat.le_refl 0) (Nat.le_refl 0) ⟨_, rfl, rfl, hG, h⟩
set_option maxRecDepth 100000 in
set_option maxHeartbeats 4000000 in
theorem rX11_refuse {d : Nat} {x1 : Int32} {M : mm_M} {K : Int32 → mm_M → Prop} (hG : mm_G M.2.2) (h : if x1 < 0 then (K (-1) M) else (if (nI 6) ≤ x1 then (K (-1) M) else (vp_in x1 6 ∧ vp_in x1 6 ∧ K (-1) (mm_uI M 2 x1.toNatClampNeg ((M.1 2 x1.toNatClampNeg) + 1))))) : mm_CI mX11_refuse d [.ref 0, .int x1] M K := by
  show mm_W mX11_refuse d 0 0 0 [(0, .ref 0), (1, .int x1)] [] mm_SH M 0 0 (mm_PI K)
  refine mm_iload_n (pc := 0) (j := 1) dX11_refuse_0 rfl rfl ?_
  refine mm_if_lt (pc := 1) (tgt := 23) dX11_refuse_1 (by decide) (fun hc => ?_) (fun hc => ?_)
  · have h := mm_ift hc h
    refine mm_iconst (pc := 23) (x := (-1)) dX11_refuse_23 rfl ?_
    exact mm_iret (pc := 24) dX11_refuse_24 rfl (Nat.le_refl 0) (Nat.le_refl 0) ⟨_, rfl, rfl, hG, h⟩
  · have h := mm_iff hc h
    refine mm_iload_n (pc := 4) (j := 1) dX11_refuse_4 rfl rfl ?_
    refine mm_aload_n (pc := 5) (j := 0) dX11_refuse_5 rfl rfl ?_
    refine mm_getR (pc := 6) (ci := 11) (N := 19) (r := 2) dX11_refuse_6 fX11_13 sh_0 rfl (g_0_2 hG) ?_
    refine mm_alen (pc := 9) (t := 0) (N := 6) dX11_refuse_9 sh_2 (by decide) ?_
    refine mm_icmp_ge (pc := 10) (tgt := 23) dX11_refuse_10 (by decide) (fun hc => ?_) (fun hc => ?_)
    · have h := mm_ift hc h
      refine mm_iconst (pc := 23) (x := (-1)) dX11_refuse_23 rfl ?_
      exact mm_iret (pc := 24) dX11_refuse_24 rfl (Nat.le_refl 0) (Nat.le_refl 0) ⟨_, rfl, rfl, hG, h⟩
    · have h := mm_iff hc h
      refine mm_aload_n (pc := 13) (j := 0) dX11_refuse_13 rfl rfl ?_
      refine mm_getR (pc := 14) (ci := 11) (N := 19) (r := 2) dX11_refuse_14 fX11_13 sh_0 rfl (g_0_2 hG) ?_
      refine mm_iload_n (pc := 17) (j := 1) dX11_refuse_17 rfl rfl ?_
      refine mm_dup2 (pc := 18) dX11_refuse_18 rfl rfl ?_
      obtain ⟨hi19, h⟩ := h
      refine mm_iaload (pc := 19) (N := 6) dX11_refuse_19 sh_2 hi19 ?_
      refine mm_iconst (pc := 20) (x := 1) dX11_refuse_20 rfl ?_
      refine mm_iadd (pc := 21) dX11_refuse_21 ?_
      obtain ⟨hi22, h⟩ := h
      refine mm_iastore (pc := 22) (N := 6) dX11_refuse_22 sh_2 hi22 ?_
      refine mm_iconst (pc := 23) (x := (-1)) dX11_refuse_23 rfl ?_
      exact mm_iret (pc := 24) dX11_refuse_24 rfl (Nat.le_refl 0) (Nat.le_refl 0) ⟨_, rfl, rfl, hG, h⟩
def jX11_putOnTape_3 (d : Nat) (x1 : Int32) (M : mm_M) (K : mm_M → Prop) (y1 : Int32) (y2 : Int32) : Prop := mm_W mX11_putOnTape d 0 0 3 [(0, .ref 0), (1, .int y1), (2, .int y2)] [] mm_SH M 0 0 (mm_PV K)
set_option maxRecDepth 100000 in
set_option maxHeartbeats 4000000 in
theorem rX11_putOnTape {d : Nat} {x1 : Int32} {M : mm_M} {K : mm_M → Prop} (hG : mm_G M.2.2) (h : jX11_putOnTape_3 d x1 M K x1 24) : mm_CV mX11_putOnTape d [.ref 0, .int x1] M K := by
  show mm_W mX11_putOnTape d 0 0 0 [(0, .ref 0), (1, .int x1)] [] mm_SH M 0 0 (mm_PV K)
  refine mm_bipush (pc := 0) (x := 24) dX11_putOnTape_0 rfl ?_
  refine mm_istore_n (pc := 2) (lv' := [(2, .int 24), (0, .ref 0), (1, .int x1)]) dX11_putOnTape_2 rfl (by decide) rfl ?_
  exact mm_sub [1, 2, 0] rfl h
set_option maxRecDepth 100000 in
set_option maxHeartbeats 4000000 in
theorem lX11_putOnTape_3 {d : Nat} {x1 : Int32} {M : mm_M} {K : mm_M → Prop} {y1 : Int32} {y2 : Int32} (hG : mm_G M.2.2) (h : if y2 < 0 then (K M) else (if (M.1 0 1) < 0 then (jX11_putOnTape_3 d x1 M K y1 (y2 + (-8))) else (if (nI 1600) ≤ (M.1 0 1) then (jX11_putOnTape_3 d x1 M K y1 (y2 + (-8))) else (vp_in (M.1 0 1) 1600 ∧ jX11_putOnTape_3 d x1 (mm_uI (mm_uI M 1 (M.1 0 1).toNatClampNeg (((y1.toUInt32 >>> (y2.toUInt32 &&& Int32.toUInt32 31)).toInt32) &&& 255)) 0 1 (((mm_uI M 1 (M.1 0 1).toNatClampNeg (((y1.toUInt32 >>> (y2.toUInt32 &&& Int32.toUInt32 31)).toInt32) &&& 255)).1 0 1) + 1)) K y1 (y2 + (-8)))))) : jX11_putOnTape_3 d x1 M K y1 y2 := by
  unfold jX11_putOnTape_3
  refine mm_iload_n (pc := 3) (j := 2) dX11_putOnTape_3 rfl rfl ?_
  refine mm_if_lt (pc := 4) (tgt := 58) dX11_putOnTape_4 (by decide) (fun hc => ?_) (fun hc => ?_)
  · have h := mm_ift hc h
    exact mm_vret (pc := 58) dX11_putOnTape_58 rfl (Nat.le_refl 0) (Nat.le_refl 0) ⟨rfl, rfl, hG, h⟩
  · have h := mm_iff hc h
    refine mm_aload_n (pc := 7) (j := 0) dX11_putOnTape_7 rfl rfl ?_
    refine mm_getI (pc := 8) (ci := 11) (N := 19) dX11_putOnTape_8 fX11_94 sh_0 rfl ?_
    refine mm_if_lt (pc := 11) (tgt := 52) dX11_putOnTape_11 (by decide) (fun hc => ?_) (fun hc => ?_)
    · have h := mm_ift hc h
      refine mm_iinc (pc := 52) (j := 2) (v := y2 + (-8)) (lv' := [(2, .int (y2 + (-8))), (0, .ref 0), (1, .int y1)]) dX11_putOnTape_52 rfl rfl (by decide) rfl ?_
      refine mm_goto (pc := 55) (tgt := 3) dX11_putOnTape_55 (by decide) ?_
      exact mm_sub [1, 2, 0] rfl h
    · have h := mm_iff hc h
      refine mm_aload_n (pc := 14) (j := 0) dX11_putOnTape_14 rfl rfl ?_
      refine mm_getI (pc := 15) (ci := 11) (N := 19) dX11_putOnTape_15 fX11_94 sh_0 rfl ?_
      refine mm_aload_n (pc := 18) (j := 0) dX11_putOnTape_18 rfl rfl ?_
      refine mm_getR (pc := 19) (ci := 11) (N := 19) (r := 1) dX11_putOnTape_19 fX11_9 sh_0 rfl (g_0_0 hG) ?_
      refine mm_alen (pc := 22) (t := 0) (N := 1600) dX11_putOnTape_22 sh_1 (by decide) ?_
      refine mm_icmp_ge (pc := 23) (tgt := 52) dX11_putOnTape_23 (by decide) (fun hc => ?_) (fun hc => ?_)
      · have h := mm_ift hc h
        refine mm_iinc (pc := 52) (j := 2) (v := y2 + (-8)) (lv' := [(2, .int (y2 + (-8))), (0, .ref 0), (1, .int y1)]) dX11_putOnTape_52 rfl rfl (by decide) rfl ?_
        refine mm_goto (pc := 55) (tgt := 3) dX11_putOnTape_55 (by decide) ?_
        exact mm_sub [1, 2, 0] rfl h
      · have h := mm_iff hc h
        refine mm_aload_n (pc := 26) (j := 0) dX11_putOnTape_26 rfl rfl ?_
        refine mm_getR (pc := 27) (ci := 11) (N := 19) (r := 1) dX11_putOnTape_27 fX11_9 sh_0 rfl (g_0_0 hG) ?_
        refine mm_aload_n (pc := 30) (j := 0) dX11_putOnTape_30 rfl rfl ?_
        refine mm_getI (pc := 31) (ci := 11) (N := 19) dX11_putOnTape_31 fX11_94 sh_0 rfl ?_
        refine mm_iload_n (pc := 34) (j := 1) dX11_putOnTape_34 rfl rfl ?_
        refine mm_iload_n (pc := 35) (j := 2) dX11_putOnTape_35 rfl rfl ?_
        refine mm_iushr (pc := 36) dX11_putOnTape_36 rfl ?_
        refine mm_sipush (pc := 37) (x := 255) dX11_putOnTape_37 rfl ?_
        refine mm_iand (pc := 40) dX11_putOnTape_40 ?_
        obtain ⟨hi41, h⟩ := h
        refine mm_iastore (pc := 41) (N := 1600) dX11_putOnTape_41 sh_1 hi41 ?_
        refine mm_aload_n (pc := 42) (j := 0) dX11_putOnTape_42 rfl rfl ?_
        refine mm_dup (pc := 43) dX11_putOnTape_43 rfl ?_
        refine mm_getI (pc := 44) (ci := 11) (N := 19) dX11_putOnTape_44 fX11_94 sh_0 rfl ?_
        refine mm_iconst (pc := 47) (x := 1) dX11_putOnTape_47 rfl ?_
        refine mm_iadd (pc := 48) dX11_putOnTape_48 ?_
        refine mm_putI (pc := 49) (ci := 11) (N := 19) dX11_putOnTape_49 fX11_94 sh_0 (by decide +kernel) rfl rfl rfl ?_
        refine mm_iinc (pc := 52) (j := 2) (v := y2 + (-8)) (lv' := [(2, .int (y2 + (-8))), (0, .ref 0), (1, .int y1)]) dX11_putOnTape_52 rfl rfl (by decide) rfl ?_
        refine mm_goto (pc := 55) (tgt := 3) dX11_putOnTape_55 (by decide) ?_
        exact mm_sub [1, 2, 0] rfl h
set_option maxRecDepth 100000 in
set_option maxHeartbeats 4000000 in
theorem rX11_takeTape {d : Nat} {M : mm_M} {K : Int32 → mm_M → Prop} (hG : mm_G M.2.2) (h : K (M.1 0 1) (mm_uI M 0 1 0)) : mm_CI mX11_takeTape d [.ref 0] M K := by
  show mm_W mX11_takeTape d 0 0 0 [(0, .ref 0)] [] mm_SH M 0 0 (mm_PI K)
  refine mm_aload_n (pc := 0) (j := 0) dX11_takeTape_0 rfl rfl ?_
  refine mm_getI (pc := 1) (ci := 11) (N := 19) dX11_takeTape_1 fX11_94 sh_0 rfl ?_
  refine mm_istore_n (pc := 4) (lv' := [(1, .int (M.1 0 1)), (0, .ref 0)]) dX11_takeTape_4 rfl (by decide) rfl ?_
  refine mm_aload_n (pc := 5) (j := 1) dX11_takeTape_5 rfl rfl ?_
  refine mm_iconst (pc := 6) (x := 0) dX11_takeTape_6 rfl ?_
  refine mm_putI (pc := 7) (ci := 11) (N := 19) dX11_takeTape_7 fX11_94 sh_0 (by decide +kernel) rfl rfl rfl ?_
  refine mm_iload_n (pc := 10) (j := 0) dX11_takeTape_10 rfl rfl ?_
  exact mm_iret (pc := 11) dX11_takeTape_11 rfl (Nat.le_refl 0) (Nat.le_refl 0) ⟨_, rfl, rfl, hG, h⟩
set_option maxRecDepth 100000 in
set_option maxHeartbeats 4000000 in
theorem rX11_noteFault {d : Nat} {a1 : Nat} {M : mm_M} {K : mm_M → Prop} (ha1 : a1 ∈ mm_Rds) (hG : mm_G M.2.2) (h : K (mm_uI (mm_uI M 0 3 (M.1 a1 8)) 0 4 ((mm_uI M 0 3 (M.1 a1 8)).1 a1 9))) : mm_CV mX11_noteFault d [.ref 0, .ref a1] M K := by
  show mm_W mX11_noteFault d 0 0 0 [(0, .ref 0), (1, .ref a1)] [] mm_SH M 0 0 (mm_PV K)
  refine mm_aload_n (pc := 0) (j := 0) dX11_noteFault_0 rfl rfl ?_
  refine mm_aload_n (pc := 1) (j := 1) dX11_noteFault_1 rfl rfl ?_
  refine mm_getI (pc := 2) (ci := 6) (N := 15) dX11_noteFault_2 fX11_345 (sh_Rd ha1) rfl ?_
  refine mm_putI (pc := 5) (ci := 11) (N := 19) dX11_noteFault_5 fX11_120 sh_0 (by decide +kernel) rfl rfl rfl ?_
  refine mm_aload_n (pc := 8) (j := 0) dX11_noteFault_8 rfl rfl ?_
  refine mm_aload_n (pc := 9) (j := 1) dX11_noteFault_9 rfl rfl ?_
  refine mm_getI (pc := 10) (ci := 6) (N := 15) dX11_noteFault_10 fX11_350 (sh_Rd ha1) rfl ?_
  refine mm_putI (pc := 13) (ci := 11) (N := 19) dX11_noteFault_13 fX11_16 sh_0 (by decide +kernel) rfl rfl rfl ?_
  exact mm_vret (pc := 16) dX11_noteFault_16 rfl (Nat.le_refl 0) (Nat.le_refl 0) ⟨rfl, rfl, hG, h⟩
set_option maxRecDepth 100000 in
set_option maxHeartbeats 4000000 in
theorem rX11_hasDuchy {d : Nat} {M : mm_M} {K : Int32 → mm_M → Prop} (hG : mm_G M.2.2) (h : ∃ q1 : Nat, M.2.2 0 11 = some q1 ∧ q1 ∈ mm_Rls ∧ if (M.1 q1 0) ≤ 0 then (K 0 M) else (K 1 M)) : mm_CI mX11_hasDuchy d [.ref 0] M K := by
  show mm_W mX11_hasDuchy d 0 0 0 [(0, .ref 0)] [] mm_SH M 0 0 (mm_PI K)
  refine mm_aload_n (pc := 0) (j := 0) dX11_hasDuchy_0 rfl rfl ?_
  obtain ⟨q1, he1, hq1, h⟩ := h
  refine mm_getR (pc := 1) (ci := 11) (N := 19) (r := q1) dX11_hasDuchy_1 fX11_57 sh_0 rfl he1 ?_
  refine mm_getI (pc := 4) (ci := 7) (N := 11) dX11_hasDuchy_4 fX11_140 (sh_Rl hq1) rfl ?_
  refine mm_if_le (pc := 7) (tgt := 14) dX11_hasDuchy_7 (by decide) (fun hc => ?_) (fun hc => ?_)
  · have h := mm_ift hc h
    refine mm_iconst (pc := 14) (x := 0) dX11_hasDuchy_14 rfl ?_
    exact mm_zret (pc := 15) dX11_hasDuchy_15 rfl rfl (Nat.le_refl 0) (Nat.le_refl 0) ⟨_, rfl, rfl, hG, h⟩
  · have h := mm_iff hc h
    refine mm_iconst (pc := 10) (x := 1) dX11_hasDuchy_10 rfl ?_
    refine mm_goto (pc := 11) (tgt := 15) dX11_hasDuchy_11 (by decide) ?_
    exact mm_zret (pc := 15) dX11_hasDuchy_15 rfl rfl (Nat.le_refl 0) (Nat.le_refl 0) ⟨_, rfl, rfl, hG, h⟩
set_option maxRecDepth 100000 in
set_option maxHeartbeats 4000000 in
theorem rX11_isHouse {d : Nat} {x1 : Int32} {M : mm_M} {K : Int32 → mm_M → Prop} (hG : mm_G M.2.2) (h : if x1 < 0 then (K 0 M) else (∃ q6 : Nat, M.2.2 0 11 = some q6 ∧ q6 ∈ mm_Rls ∧ if (M.1 q6 2) ≤ x1 then (K 0 M) else (K 1 M))) : mm_CI mX11_isHouse d [.ref 0, .int x1] M K := by
  show mm_W mX11_isHouse d 0 0 0 [(0, .ref 0), (1, .int x1)] [] mm_SH M 0 0 (mm_PI K)
  refine mm_iload_n (pc := 0) (j := 1) dX11_isHouse_0 rfl rfl ?_
  refine mm_if_lt (pc := 1) (tgt := 19) dX11_isHouse_1 (by decide) (fun hc => ?_) (fun hc => ?_)
  · have h := mm_ift hc h
    refine mm_iconst (pc := 19) (x := 0) dX11_isHouse_19 rfl ?_
    exact mm_zret (pc := 20) dX11_isHouse_20 rfl rfl (Nat.le_refl 0) (Nat.le_refl 0) ⟨_, rfl, rfl, hG, h⟩
  · have h := mm_iff hc h
    refine mm_iload_n (pc := 4) (j := 1) dX11_isHouse_4 rfl rfl ?_
    refine mm_aload_n (pc := 5) (j := 0) dX11_isHouse_5 rfl rfl ?_
    obtain ⟨q6, he6, hq6, h⟩ := h
    refine mm_getR (pc := 6) (ci := 11) (N := 19) (r := q6) dX11_isHouse_6 fX11_57 sh_0 rfl he6 ?_
    refine mm_getI (pc := 9) (ci := 7) (N := 11) dX11_isHouse_9 fX11_148 (sh_Rl hq6) rfl ?_
    refine mm_icmp_ge (pc := 12) (tgt := 19) dX11_isHouse_12 (by decide) (fun hc => ?_) (fun hc => ?_)
    · have h := mm_ift hc h
      refine mm_iconst (pc := 19) (x := 0) dX11_isHouse_19 rfl ?_
      exact mm_zret (pc := 20) dX11_isHouse_20 rfl rfl (Nat.le_refl 0) (Nat.le_refl 0) ⟨_, rfl, rfl, hG, h⟩
    · have h := mm_iff hc h
      refine mm_iconst (pc := 15) (x := 1) dX11_isHouse_15 rfl ?_
      refine mm_goto (pc := 16) (tgt := 20) dX11_isHouse_16 (by decide) ?_
      exact mm_zret (pc := 20) dX11_isHouse_20 rfl rfl (Nat.le_refl 0) (Nat.le_refl 0) ⟨_, rfl, rfl, hG, h⟩
set_option maxRecDepth 100000 in
set_option maxHeartbeats 4000000 in
theorem rX11_arePair {d : Nat} {x1 : Int32} {x2 : Int32} {M : mm_M} {K : Int32 → mm_M → Prop} (hG : mm_G M.2.2) (h : mm_CI mX11_isHouse d [.ref 0, .int x1] M (fun z2 m2 => if z2 = 0 then (K 0 m2) else (mm_CI mX11_isHouse d [.ref 0, .int x2] m2 (fun z10 m10 => if z10 = 0 then (K 0 m10) else (if x1 = x2 then (K 0 m10) else (K 1 m10)))))) : mm_CI mX11_arePair (d + 1) [.ref 0, .int x1, .int x2] M K := by
  show mm_W mX11_arePair (d + 1) 0 0 0 [(0, .ref 0), (1, .int x1), (2, .int x2)] [] mm_SH M 0 0 (mm_PI K)
  refine mm_aload_n (pc := 0) (j := 0) dX11_arePair_0 rfl rfl ?_
  refine mm_iload_n (pc := 1) (j := 1) dX11_arePair_1 rfl rfl ?_
  refine mm_kVI (pc := 2) [.int x1] dX11_arePair_2 kX11_171 rfl sh_0 (Nat.le_of_ble_eq_true rfl) (Nat.le_of_ble_eq_true rfl) h (fun z2 m2 hG h => ?_)
  refine mm_if_eq (pc := 5) (tgt := 25) dX11_arePair_5 (by decide) (fun hc => ?_) (fun hc => ?_)
  · have h := mm_ift hc h
    refine mm_iconst (pc := 25) (x := 0) dX11_arePair_25 rfl ?_
    exact mm_zret (pc := 26) dX11_arePair_26 rfl rfl (Nat.le_refl 0) (Nat.le_refl 0) ⟨_, rfl, rfl, hG, h⟩
  · have h := mm_iff hc h
    refine mm_aload_n (pc := 8) (j := 0) dX11_arePair_8 rfl rfl ?_
    refine mm_iload_n (pc := 9) (j := 2) dX11_arePair_9 rfl rfl ?_
    refine mm_kVI (pc := 10) [.int x2] dX11_arePair_10 kX11_171 rfl sh_0 (Nat.le_of_ble_eq_true rfl) (Nat.le_of_ble_eq_true rfl) h (fun z10 m10 hG h => ?_)
    refine mm_if_eq (pc := 13) (tgt := 25) dX11_arePair_13 (by decide) (fun hc => ?_) (fun hc => ?_)
    · have h := mm_ift hc h
      refine mm_iconst (pc := 25) (x := 0) dX11_arePair_25 rfl ?_
      exact mm_zret (pc := 26) dX11_arePair_26 rfl rfl (Nat.le_refl 0) (Nat.le_refl 0) ⟨_, rfl, rfl, hG, h⟩
    · have h := mm_iff hc h
      refine mm_iload_n (pc := 16) (j := 1) dX11_arePair_16 rfl rfl ?_
      refine mm_iload_n (pc := 17) (j := 2) dX11_arePair_17 rfl rfl ?_
      refine mm_icmp_eq (pc := 18) (tgt := 25) dX11_arePair_18 (by decide) (fun hc => ?_) (fun hc => ?_)
      · have h := mm_ift hc h
        refine mm_iconst (pc := 25) (x := 0) dX11_arePair_25 rfl ?_
        exact mm_zret (pc := 26) dX11_arePair_26 rfl rfl (Nat.le_refl 0) (Nat.le_refl 0) ⟨_, rfl, rfl, hG, h⟩
      · have h := mm_iff hc h
        refine mm_iconst (pc := 21) (x := 1) dX11_arePair_21 rfl ?_
        refine mm_goto (pc := 22) (tgt := 26) dX11_arePair_22 (by decide) ?_
        exact mm_zret (pc := 26) dX11_arePair_26 rfl rfl (Nat.le_refl 0) (Nat.le_refl 0) ⟨_, rfl, rfl, hG, h⟩
set_option maxRecDepth 100000 in
set_option maxHeartbeats 4000000 in
theorem rX11_canPass {d : Nat} {x1 : Int32} {M : mm_M} {K : Int32 → mm_M → Prop} (hG : mm_G M.2.2) (h : mm_CI mX11_hasDuchy d [.ref 0] M (fun z1 m1 => if z1 = 0 then (K 0 m1) else (if x1 < 1 then (K 0 m1) else (if 100 < x1 then (K 0 m1) else (if 999 < ((m1.1 37 0) + x1) then (K 0 m1) else (K 1 m1)))))) : mm_CI mX11_canPass (d + 1) [.ref 0, .int x1] M K := by
  show mm_W mX11_canPass (d + 1) 0 0 0 [(0, .ref 0), (1, .int x1)] [] mm_SH M 0 0 (mm_PI K)
  refine mm_aload_n (pc := 0) (j := 0) dX11_canPass_0 rfl rfl ?_
  refine mm_kVI (pc := 1) [] dX11_canPass_1 kX11_230 rfl sh_0 (Nat.le_of_ble_eq_true rfl) (Nat.le_of_ble_eq_true rfl) h (fun z1 m1 hG h => ?_)
  refine mm_if_eq (pc := 4) (tgt := 37) dX11_canPass_4 (by decide) (fun hc => ?_) (fun hc => ?_)
  · have h := mm_ift hc h
    refine mm_iconst (pc := 37) (x := 0) dX11_canPass_37 rfl ?_
    exact mm_zret (pc := 38) dX11_canPass_38 rfl rfl (Nat.le_refl 0) (Nat.le_refl 0) ⟨_, rfl, rfl, hG, h⟩
  · have h := mm_iff hc h
    refine mm_iload_n (pc := 7) (j := 1) dX11_canPass_7 rfl rfl ?_
    refine mm_iconst (pc := 8) (x := 1) dX11_canPass_8 rfl ?_
    refine mm_icmp_lt (pc := 9) (tgt := 37) dX11_canPass_9 (by decide) (fun hc => ?_) (fun hc => ?_)
    · have h := mm_ift hc h
      refine mm_iconst (pc := 37) (x := 0) dX11_canPass_37 rfl ?_
      exact mm_zret (pc := 38) dX11_canPass_38 rfl rfl (Nat.le_refl 0) (Nat.le_refl 0) ⟨_, rfl, rfl, hG, h⟩
    · have h := mm_iff hc h
      refine mm_iload_n (pc := 12) (j := 1) dX11_canPass_12 rfl rfl ?_
      refine mm_bipush (pc := 13) (x := 100) dX11_canPass_13 rfl ?_
      refine mm_icmp_gt (pc := 15) (tgt := 37) dX11_canPass_15 (by decide) (fun hc => ?_) (fun hc => ?_)
      · have h := mm_ift hc h
        refine mm_iconst (pc := 37) (x := 0) dX11_canPass_37 rfl ?_
        exact mm_zret (pc := 38) dX11_canPass_38 rfl rfl (Nat.le_refl 0) (Nat.le_refl 0) ⟨_, rfl, rfl, hG, h⟩
      · have h := mm_iff hc h
        refine mm_aload_n (pc := 18) (j := 0) dX11_canPass_18 rfl rfl ?_
        refine mm_getR (pc := 19) (ci := 11) (N := 19) (r := 37) dX11_canPass_19 fX11_59 sh_0 rfl (g_0_12 hG) ?_
        refine mm_getI (pc := 22) (ci := 9) (N := 7) dX11_canPass_22 fX11_151 sh_37 rfl ?_
        refine mm_iload_n (pc := 25) (j := 1) dX11_canPass_25 rfl rfl ?_
        refine mm_iadd (pc := 26) dX11_canPass_26 ?_
        refine mm_sipush (pc := 27) (x := 999) dX11_canPass_27 rfl ?_
        refine mm_icmp_gt (pc := 30) (tgt := 37) dX11_canPass_30 (by decide) (fun hc => ?_) (fun hc => ?_)
        · have h := mm_ift hc h
          refine mm_iconst (pc := 37) (x := 0) dX11_canPass_37 rfl ?_
          exact mm_zret (pc := 38) dX11_canPass_38 rfl rfl (Nat.le_refl 0) (Nat.le_refl 0) ⟨_, rfl, rfl, hG, h⟩
        · have h := mm_iff hc h
          refine mm_iconst (pc := 33) (x := 1) dX11_canPass_33 rfl ?_
          refine mm_goto (pc := 34) (tgt := 38) dX11_canPass_34 (by decide) ?_
          exact mm_zret (pc := 38) dX11_canPass_38 rfl rfl (Nat.le_refl 0) (Nat.le_refl 0) ⟨_, rfl, rfl, hG, h⟩
set_option maxRecDepth 100000 in
set_option maxHeartbeats 4000000 in
theorem rX11_canLookAtSets {d : Nat} {x1 : Int32} {M : mm_M} {K : Int32 → mm_M → Prop} (hG : mm_G M.2.2) (h : if x1 < 1 then (K 0 M) else (if 20 < x1 then (K 0 M) else (if 999 < ((M.1 37 0) + x1) then (K 0 M) else (K 1 M)))) : mm_CI mX11_canLookAtSets d [.ref 0, .int x1] M K := by
  show mm_W mX11_canLookAtSets d 0 0 0 [(0, .ref 0), (1, .int x1)] [] mm_SH M 0 0 (mm_PI K)
  refine mm_iload_n (pc := 0) (j := 1) dX11_canLookAtSets_0 rfl rfl ?_
  refine mm_iconst (pc := 1) (x := 1) dX11_canLookAtSets_1 rfl ?_
  refine mm_icmp_lt (pc := 2) (tgt := 30) dX11_canLookAtSets_2 (by decide) (fun hc => ?_) (fun hc => ?_)
  · have h := mm_ift hc h
    refine mm_iconst (pc := 30) (x := 0) dX11_canLookAtSets_30 rfl ?_
    exact mm_zret (pc := 31) dX11_canLookAtSets_31 rfl rfl (Nat.le_refl 0) (Nat.le_refl 0) ⟨_, rfl, rfl, hG, h⟩
  · have h := mm_iff hc h
    refine mm_iload_n (pc := 5) (j := 1) dX11_canLookAtSets_5 rfl rfl ?_
    refine mm_bipush (pc := 6) (x := 20) dX11_canLookAtSets_6 rfl ?_
    refine mm_icmp_gt (pc := 8) (tgt := 30) dX11_canLookAtSets_8 (by decide) (fun hc => ?_) (fun hc => ?_)
    · have h := mm_ift hc h
      refine mm_iconst (pc := 30) (x := 0) dX11_canLookAtSets_30 rfl ?_
      exact mm_zret (pc := 31) dX11_canLookAtSets_31 rfl rfl (Nat.le_refl 0) (Nat.le_refl 0) ⟨_, rfl, rfl, hG, h⟩
    · have h := mm_iff hc h
      refine mm_aload_n (pc := 11) (j := 0) dX11_canLookAtSets_11 rfl rfl ?_
      refine mm_getR (pc := 12) (ci := 11) (N := 19) (r := 37) dX11_canLookAtSets_12 fX11_59 sh_0 rfl (g_0_12 hG) ?_
      refine mm_getI (pc := 15) (ci := 9) (N := 7) dX11_canLookAtSets_15 fX11_151 sh_37 rfl ?_
      refine mm_iload_n (pc := 18) (j := 1) dX11_canLookAtSets_18 rfl rfl ?_
      refine mm_iadd (pc := 19) dX11_canLookAtSets_19 ?_
      refine mm_sipush (pc := 20) (x := 999) dX11_canLookAtSets_20 rfl ?_
      refine mm_icmp_gt (pc := 23) (tgt := 30) dX11_canLookAtSets_23 (by decide) (fun hc => ?_) (fun hc => ?_)
      · have h := mm_ift hc h
        refine mm_iconst (pc := 30) (x := 0) dX11_canLookAtSets_30 rfl ?_
        exact mm_zret (pc := 31) dX11_canLookAtSets_31 rfl rfl (Nat.le_refl 0) (Nat.le_refl 0) ⟨_, rfl, rfl, hG, h⟩
      · have h := mm_iff hc h
        refine mm_iconst (pc := 26) (x := 1) dX11_canLookAtSets_26 rfl ?_
        refine mm_goto (pc := 27) (tgt := 31) dX11_canLookAtSets_27 (by decide) ?_
        exact mm_zret (pc := 31) dX11_canLookAtSets_31 rfl rfl (Nat.le_refl 0) (Nat.le_refl 0) ⟨_, rfl, rfl, hG, h⟩
def jX11_goAhead_40 (d : Nat) (x1 : Int32) (M : mm_M) (K : Int32 → mm_M → Prop) (y1 : Int32) (y2 : Int32) : Prop := mm_W mX11_goAhead (d + 1) 0 0 40 [(0, .ref 0), (1, .int y1), (2, .int y2)] [] mm_SH M 0 0 (mm_PI K)
set_option maxRecDepth 100000 in
set_option maxHeartbeats 4000000 in
theorem rX11_goAhead {d : Nat} {x1 : Int32} {M : mm_M} {K : Int32 → mm_M → Prop} (hG : mm_G M.2.2) (h : if x1 < 0 then (K 0 M) else (if 60 < x1 then (K 0 M) else (if ((M.1 37 0) + x1) ≤ 999 then (mm_CV mX9_copyFrom d [.ref 42, .ref 37] M (fun m35 => jX11_goAhead_40 d x1 m35 K x1 0)) else (K 0 M)))) : mm_CI mX11_goAhead (d + 1) [.ref 0, .int x1] M K := by
  show mm_W mX11_goAhead (d + 1) 0 0 0 [(0, .ref 0), (1, .int x1)] [] mm_SH M 0 0 (mm_PI K)
  refine mm_iload_n (pc := 0) (j := 1) dX11_goAhead_0 rfl rfl ?_
  refine mm_if_lt (pc := 1) (tgt := 25) dX11_goAhead_1 (by decide) (fun hc => ?_) (fun hc => ?_)
  · have h := mm_ift hc h
    refine mm_iconst (pc := 25) (x := 0) dX11_goAhead_25 rfl ?_
    exact mm_zret (pc := 26) dX11_goAhead_26 rfl rfl (Nat.le_refl 0) (Nat.le_refl 0) ⟨_, rfl, rfl, hG, h⟩
  · have h := mm_iff hc h
    refine mm_iload_n (pc := 4) (j := 1) dX11_goAhead_4 rfl rfl ?_
    refine mm_bipush (pc := 5) (x := 60) dX11_goAhead_5 rfl ?_
    refine mm_icmp_gt (pc := 7) (tgt := 25) dX11_goAhead_7 (by decide) (fun hc => ?_) (fun hc => ?_)
    · have h := mm_ift hc h
      refine mm_iconst (pc := 25) (x := 0) dX11_goAhead_25 rfl ?_
      exact mm_zret (pc := 26) dX11_goAhead_26 rfl rfl (Nat.le_refl 0) (Nat.le_refl 0) ⟨_, rfl, rfl, hG, h⟩
    · have h := mm_iff hc h
      refine mm_aload_n (pc := 10) (j := 0) dX11_goAhead_10 rfl rfl ?_
      refine mm_getR (pc := 11) (ci := 11) (N := 19) (r := 37) dX11_goAhead_11 fX11_59 sh_0 rfl (g_0_12 hG) ?_
      refine mm_getI (pc := 14) (ci := 9) (N := 7) dX11_goAhead_14 fX11_151 sh_37 rfl ?_
      refine mm_iload_n (pc := 17) (j := 1) dX11_goAhead_17 rfl rfl ?_
      refine mm_iadd (pc := 18) dX11_goAhead_18 ?_
      refine mm_sipush (pc := 19) (x := 999) dX11_goAhead_19 rfl ?_
      refine mm_icmp_le (pc := 22) (tgt := 27) dX11_goAhead_22 (by decide) (fun hc => ?_) (fun hc => ?_)
      · have h := mm_ift hc h
        refine mm_aload_n (pc := 27) (j := 0) dX11_goAhead_27 rfl rfl ?_
        refine mm_getR (pc := 28) (ci := 11) (N := 19) (r := 42) dX11_goAhead_28 fX11_63 sh_0 rfl (g_0_13 hG) ?_
        refine mm_aload_n (pc := 31) (j := 0) dX11_goAhead_31 rfl rfl ?_
        refine mm_getR (pc := 32) (ci := 11) (N := 19) (r := 37) dX11_goAhead_32 fX11_59 sh_0 rfl (g_0_12 hG) ?_
        refine mm_kVV (pc := 35) [.ref 37] dX11_goAhead_35 kX11_200 rfl sh_42 (Nat.le_of_ble_eq_true rfl) (Nat.le_of_ble_eq_true rfl) h (fun m35 hG h => ?_)
        refine mm_iconst (pc := 38) (x := 0) dX11_goAhead_38 rfl ?_
        refine mm_istore_n (pc := 39) (lv' := [(2, .int 0), (0, .ref 0), (1, .int x1)]) dX11_goAhead_39 rfl (by decide) rfl ?_
        exact mm_sub [1, 2, 0] rfl h
      · have h := mm_iff hc h
        refine mm_iconst (pc := 25) (x := 0) dX11_goAhead_25 rfl ?_
        exact mm_zret (pc := 26) dX11_goAhead_26 rfl rfl (Nat.le_refl 0) (Nat.le_refl 0) ⟨_, rfl, rfl, hG, h⟩
set_option maxRecDepth 100000 in
set_option maxHeartbeats 4000000 in
theorem lX11_goAhead_40 {d : Nat} {x1 : Int32} {M : mm_M} {K : Int32 → mm_M → Prop} {y1 : Int32} {y2 : Int32} (hG : mm_G M.2.2) (h : if y1 ≤ y2 then (K 1 M) else (mm_CV mX1_run d [.ref 21, .ref 42, .int 0, .int 0] M (fun m55 => jX11_goAhead_40 d x1 m55 K y1 (y2 + 1)))) : jX11_goAhead_40 d x1 M K y1 y2 := by
  unfold jX11_goAhead_40
  refine mm_iload_n (pc := 40) (j := 2) dX11_goAhead_40 rfl rfl ?_
  refine mm_iload_n (pc := 41) (j := 1) dX11_goAhead_41 rfl rfl ?_
  refine mm_icmp_ge (pc := 42) (tgt := 64) dX11_goAhead_42 (by decide) (fun hc => ?_) (fun hc => ?_)
  · have h := mm_ift hc h
    refine mm_iconst (pc := 64) (x := 1) dX11_goAhead_64 rfl ?_
    exact mm_zret (pc := 65) dX11_goAhead_65 rfl rfl (Nat.le_refl 0) (Nat.le_refl 0) ⟨_, rfl, rfl, hG, h⟩
  · have h := mm_iff hc h
    refine mm_aload_n (pc := 45) (j := 0) dX11_goAhead_45 rfl rfl ?_
    refine mm_getR (pc := 46) (ci := 11) (N := 19) (r := 21) dX11_goAhead_46 fX11_49 sh_0 rfl (g_0_10 hG) ?_
    refine mm_aload_n (pc := 49) (j := 0) dX11_goAhead_49 rfl rfl ?_
    refine mm_getR (pc := 50) (ci := 11) (N := 19) (r := 42) dX11_goAhead_50 fX11_63 sh_0 rfl (g_0_13 hG) ?_
    refine mm_iconst (pc := 53) (x := 0) dX11_goAhead_53 rfl ?_
    refine mm_iconst (pc := 54) (x := 0) dX11_goAhead_54 rfl ?_
    refine mm_kVV (pc := 55) [.ref 42, .int 0, .int 0] dX11_goAhead_55 kX11_227 rfl sh_21 (Nat.le_of_ble_eq_true rfl) (Nat.le_of_ble_eq_true rfl) h (fun m55 hG h => ?_)
    refine mm_iinc (pc := 58) (j := 2) (v := y2 + 1) (lv' := [(2, .int (y2 + 1)), (0, .ref 0), (1, .int y1)]) dX11_goAhead_58 rfl rfl (by decide) rfl ?_
    refine mm_goto (pc := 61) (tgt := 40) dX11_goAhead_61 (by decide) ?_
    exact mm_sub [1, 2, 0] rfl h
set_option maxRecDepth 100000 in
set_option maxHeartbeats 4000000 in
theorem rX11_beginAct {d : Nat} {M : mm_M} {K : mm_M → Prop} (hG : mm_G M.2.2) (h : mm_CV mX4_remember d [.ref 47, .ref 37] M (fun m8 => K (mm_uI m8 0 18 ((m8.1 0 18) + 1)))) : mm_CV mX11_beginAct (d + 1) [.ref 0] M K := by
  show mm_W mX11_beginAct (d + 1) 0 0 0 [(0, .ref 0)] [] mm_SH M 0 0 (mm_PV K)
  refine mm_aload_n (pc := 0) (j := 0) dX11_beginAct_0 rfl rfl ?_
  refine mm_getR (pc := 1) (ci := 11) (N := 19) (r := 47) dX11_beginAct_1 fX11_69 sh_0 rfl (g_0_14 hG) ?_
  refine mm_aload_n (pc := 4) (j := 0) dX11_beginAct_4 rfl rfl ?_
  refine mm_getR (pc := 5) (ci := 11) (N := 19) (r := 37) dX11_beginAct_5 fX11_59 sh_0 rfl (g_0_12 hG) ?_
  refine mm_kVV (pc := 8) [.ref 37] dX11_beginAct_8 kX11_353 rfl sh_47 (Nat.le_of_ble_eq_true rfl) (Nat.le_of_ble_eq_true rfl) h (fun m8 hG h => ?_)
  refine mm_aload_n (pc := 11) (j := 0) dX11_beginAct_11 rfl rfl ?_
  refine mm_dup (pc := 12) dX11_beginAct_12 rfl ?_
  refine mm_getI (pc := 13) (ci := 11) (N := 19) dX11_beginAct_13 fX11_137 sh_0 rfl ?_
  refine mm_iconst (pc := 16) (x := 1) dX11_beginAct_16 rfl ?_
  refine mm_iadd (pc := 17) dX11_beginAct_17 ?_
  refine mm_putI (pc := 18) (ci := 11) (N := 19) dX11_beginAct_18 fX11_137 sh_0 (by decide +kernel) rfl rfl rfl ?_
  exact mm_vret (pc := 21) dX11_beginAct_21 rfl (Nat.le_refl 0) (Nat.le_refl 0) ⟨rfl, rfl, hG, h⟩
set_option maxRecDepth 100000 in
set_option maxHeartbeats 4000000 in
theorem rX11_draw {d : Nat} {x1 : Int32} {M : mm_M} {K : Int32 → mm_M → Prop} (hG : mm_G M.2.2) (h : if x1 ≤ 0 then (K 0 (mm_uI M 0 5 ((((1103515245 * ((M.1 0 5).toInt64)) + 12345) &&& 2147483647).toInt32))) else (¬ x1 = 0 ∧ K ((((mm_uI M 0 5 ((((1103515245 * ((M.1 0 5).toInt64)) + 12345) &&& 2147483647).toInt32)).1 0 5) / 64) - (((mm_uI M 0 5 ((((1103515245 * ((M.1 0 5).toInt64)) + 12345) &&& 2147483647).toInt32)).1 0 5) / 64) / x1 * x1) (mm_uI M 0 5 ((((1103515245 * ((M.1 0 5).toInt64)) + 12345) &&& 2147483647).toInt32)))) : mm_CI mX11_draw d [.ref 0, .int x1] M K := by
  show mm_W mX11_draw d 0 0 0 [(0, .ref 0), (1, .int x1)] [] mm_SH M 0 0 (mm_PI K)
  refine mm_aload_n (pc := 0) (j := 0) dX11_draw_0 rfl rfl ?_
  refine mm_ldc2 (pc := 1) (x := 1103515245) dX11_draw_1 cX11_356 ?_
  refine mm_aload_n (pc := 4) (j := 0) dX11_draw_4 rfl rfl ?_
  refine mm_getI (pc := 5) (ci := 11) (N := 19) dX11_draw_5 fX11_20 sh_0 rfl ?_
  refine mm_i2l (pc := 8) dX11_draw_8 ?_
  refine mm_lmul (pc := 9) dX11_draw_9 ?_
  refine mm_ldc2 (pc := 10) (x := 12345) dX11_draw_10 cX11_358 ?_
  refine mm_ladd (pc := 13) dX11_draw_13 ?_
  refine mm_ldc2 (pc := 14) (x := 2147483647) dX11_draw_14 cX11_360 ?_
  refine mm_land (pc := 17) dX11_draw_17 ?_
  refine mm_l2i (pc := 18) dX11_draw_18 ?_
  refine mm_putI (pc := 19) (ci := 11) (N := 19) dX11_draw_19 fX11_20 sh_0 (by decide +kernel) rfl rfl rfl ?_
  refine mm_iload_n (pc := 22) (j := 1) dX11_draw_22 rfl rfl ?_
  refine mm_if_le (pc := 23) (tgt := 38) dX11_draw_23 (by decide) (fun hc => ?_) (fun hc => ?_)
  · have h := mm_ift hc h
    refine mm_iconst (pc := 38) (x := 0) dX11_draw_38 rfl ?_
    exact mm_iret (pc := 39) dX11_draw_39 rfl (Nat.le_refl 0) (Nat.le_refl 0) ⟨_, rfl, rfl, hG, h⟩
  · have h := mm_iff hc h
    refine mm_aload_n (pc := 26) (j := 0) dX11_draw_26 rfl rfl ?_
    refine mm_getI (pc := 27) (ci := 11) (N := 19) dX11_draw_27 fX11_20 sh_0 rfl ?_
    refine mm_bipush (pc := 30) (x := 64) dX11_draw_30 rfl ?_
    refine mm_idiv (pc := 32) dX11_draw_32 (by decide) ?_
    refine mm_iload_n (pc := 33) (j := 1) dX11_draw_33 rfl rfl ?_
    obtain ⟨hz34, h⟩ := h
    refine mm_irem (pc := 34) dX11_draw_34 hz34 ?_
    refine mm_goto (pc := 35) (tgt := 39) dX11_draw_35 (by decide) ?_
    exact mm_iret (pc := 39) dX11_draw_39 rfl (Nat.le_refl 0) (Nat.le_refl 0) ⟨_, rfl, rfl, hG, h⟩
