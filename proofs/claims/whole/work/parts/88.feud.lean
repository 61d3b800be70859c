/-! ===== feud, undo ===== -/
theorem s21 : lw_S21 Inv := by
  intro u M x1 x2 x3 hu hG hI
  refine stepI hI (fun a hv hc hm => ?_)
  have vu := hv.2.1.1
  have vn := hv.2.2.1.1.1
  have hth := vN_lt vu vn
  have hV : a.2.2.2.2 < 2 ^ 30 := by have := hv.2.2.2.2; omega
  have e0 : (0 : Int64).toInt = 0 := rfl
  have e99 : (99 : Int64).toInt = 99 := rfl
  have z99 : (99 : Int32).toInt = 99 := rfl
  have t2 : (2 : Int32).toNatClampNeg = 2 := rfl
  by_cases ch : ∃ p q, (p < a.2.1.2.1.2.1 ∧ p < 7 ∧ x1 = nI p) ∧ (q < a.2.1.2.1.2.1 ∧ q < 7 ∧ x2 = nI q) ∧ p ≠ q ∧ a.2.2.1.1.2.1.testBit p = true ∧ a.2.2.1.1.2.1.testBit q = true ∧ inI 0 99 x3 ∧ a.2.2.1.1.2.2.2.2 p q ≠ x3
  · obtain ⟨p, q, ⟨hp, p7, rfl⟩, ⟨hq, q7, rfl⟩, hpq, ct, ct2, cx, cf⟩ := ch
    have chp : isH a.2.1.2.1.2.1 (nI p) := ⟨by rw [nI_toInt (by omega)]; omega, by rw [nI_toInt (by omega)]; omega⟩
    have chq : isH a.2.1.2.1.2.1 (nI q) := ⟨by rw [nI_toInt (by omega)]; omega, by rw [nI_toInt (by omega)]; omega⟩
    have cpq : nI p ≠ nI q := fun e => hpq ((nI_eq (by omega) (by omega)).mp e)
    have vx := cx
    unfold inI at cx
    refine ⟨1, actA a a.1 (setH a.2.2.1.1 p q x3, (remA a.2.2.1).2), VV_act hv hv.1 ⟨⟨setH_v vn hpq vx (fun _ => ⟨ct, ct2⟩), hv.2.2.1.1.2.1, hv.2.2.1.1.2.2⟩, remA_v hv.2.2.1⟩, ?_, fun m hGm hmm => ?_⟩
    · refine rX11_feud hG (c_arePair hG hc.2.1 vu.2.1 (fun _ _ _ => ineg (by decide) (c_isThere st37 hG hc.2.2.1.1.2.1 hth p7 ?_)) (fun z => absurd ⟨chp, chq, cpq⟩ z))
      rw [if_pos ct]
      refine ineg (by decide) (c_isThere st37 hG hc.2.2.1.1.2.1 hth q7 ?_)
      rw [if_pos ct2]
      refine ineg (by decide) (ineg (fun q => by have := lt0.mp q; omega) (ineg (fun q => by have := i32_lt.mp q; omega) ?_))
      have ef : M.1 40 (8 * p + q) = a.2.2.1.1.2.2.2.2 p q := hc.2.2.1.1.2.2.2.2 p q p7 q7
      rw [ix8 p (by omega) q (by omega), nI_clamp (by omega), ef]
      refine ⟨vp_in_nI (by omega) (by decide), ineg cf (c_beginAct hG (cST_le hc.2.2.1 (by omega : 700 * u ≤ 700 * (u + 1))) hc.2.2.2.2.1 (fun m1 o1 s1 g18 => ?_))⟩
      refine c_setHate st37 (by rw [o1.2.2]; exact hG) s1.1 p7 q7 (fun m2 o2 n2 => ?_)
      have s2 : cST (700 * (u + 1)) (setH a.2.2.1.1 p q x3, (remA a.2.2.1).2) m2 := cST_N s1 o2 (fun c j q => by unfold wH at q; omega) n2
      have o : offM (fun c j => wAct c j ∨ c = 40) M m2 := offM_tr (offM_mono o1 (fun c j q => Or.inl q)) (offM_mono o2 (fun c j q => Or.inr (by unfold wH at q; omega)))
      refine ⟨rfl, offA_of o (fun c j q => by unfold wAct wHi at q; unfold cl; omega), CC_act hc hV (offA_M o) (fun c j q => by unfold wAct wHi at q; unfold k1 k5 k9; omega) (cIO_off hc.1 (offA_M o) (fun c j q => by unfold wAct wHi at q; omega)) s2 ?_⟩
      rw [o2.1 _ _ (by unfold wH; omega)]; exact g18
    · obtain ⟨d1, d2, d3, d4, d5⟩ := id hmm
      refine rX12_feud hGm (m_areTwo hGm d2.2.1 vu.2.1 (fun _ _ _ => ineg (by decide) (m_isThere hGm d3.1 p7 ?_)) (fun z => absurd ⟨chp, chq, cpq⟩ z))
      rw [if_pos ct]
      refine ineg (by decide) (m_isThere hGm d3.1 q7 ?_)
      rw [if_pos ct2]
      refine ineg (by decide) (m_isIn hGm (fun _ => ineg (by decide) (m_hateOf hGm d3.1 p7 q7 hpq (ineg cf ?_))) (fun q => by rw [i64_of, e0, e99] at q; exact absurd cx q))
      refine m_keeps hGm d3 hc.2.2.1.2.2.1 (fun m1 o1 s1 => m_pairOf (by rw [o1.2.2]; exact hGm) p7 q7 hpq ?_)
      have hpl := pr_lt p p7 q q7 hpq
      rw [n22, nI_clamp (by omega)]
      have o2 : offM (fun c j => c = 199 ∧ j < 43) m1 (mm_uI m1 199 (22 + pr p q) x3) := offM_uI (by omega)
      have s2 : mST (setH a.2.2.1.1 p q x3, (remA a.2.2.1).2) (mm_uI m1 199 (22 + pr p q) x3) := mST_N s1 o2 (fun c j q => q) (mN_uP s1.1 p7 q7 hpq)
      have o : offM (fun c j => wKe c j ∨ (c = 199 ∧ j < 43)) m (mm_uI m1 199 (22 + pr p q) x3) := offM_tr (offM_mono o1 (fun c j q => Or.inl q)) (offM_mono o2 (fun c j q => Or.inr q))
      exact ⟨vp_in_nI (by omega) (by decide), rfl, offA_of o (fun c j q => by unfold wKe at q; unfold ml; omega), MM_act hmm (offA_M o) (fun c j q z => by unfold wKe at q; unfold k4 k8 k10 at z; omega) (mIO_off d1 (offA_M o) (fun c j q => by unfold wKe at q; omega)) s2⟩
  · refine ⟨0, (refA a.1 2, a.2), VV_io hv (refA_v hv.1), ?_, fun m hGm hmm => ?_⟩
    · have bad : mm_CI mX11_refuse 899 [.ref 0, .int 2] M (fun z44 m44 => cQ u (refA a.1 2, a.2) 0 M 0 m44) := c_refuse (k := 2) hG hc.1 (by decide) (fun m1 o1 i1 => ⟨rfl, offA_of o1 (fun c j q => by unfold cl; omega), CC_io hc (offA_M o1) (fun c j q => by unfold k1; omega) i1⟩)
      refine rX11_feud hG (c_arePair hG hc.2.1 vu.2.1 (fun qp qq qn => ineg (by decide) ?_) (fun q => ipos rfl bad))
      obtain ⟨p, hp, p7, rfl⟩ := isH_nI qp vu.2.1
      obtain ⟨q, hq, q7, rfl⟩ := isH_nI qq vu.2.1
      refine c_isThere st37 hG hc.2.2.1.1.2.1 hth p7 ?_
      by_cases ct : a.2.2.1.1.2.1.testBit p = true
      · rw [if_pos ct]
        refine ineg (by decide) (c_isThere st37 hG hc.2.2.1.1.2.1 hth q7 ?_)
        by_cases ct2 : a.2.2.1.1.2.1.testBit q = true
        · rw [if_pos ct2]
          have ef : M.1 40 (8 * p + q) = a.2.2.1.1.2.2.2.2 p q := hc.2.2.1.1.2.2.2.2 p q p7 q7
          rw [ix8 p (by omega) q (by omega), nI_clamp (by omega), ef]
          refine ineg (by decide) (ite_go (fun _ => bad) (fun c1 => ite_go (fun _ => bad) (fun c2 => ⟨vp_in_nI (by omega) (by decide), ite_go (fun _ => bad) (fun c3 => ?_)⟩)))
          refine absurd ⟨p, q, ⟨hp, p7, rfl⟩, ⟨hq, q7, rfl⟩, fun e => qn (by rw [e]), ct, ct2, ⟨?_, ?_⟩, c3⟩ ch
          · have := mt lt0.mpr c1; omega
          · have := mt i32_lt.mpr c2; omega
        · rw [if_neg ct2]; exact ipos rfl bad
      · rw [if_neg ct]; exact ipos rfl bad
    · obtain ⟨o1, i1⟩ := m_refused hmm.1 (k := 2) (by decide)
      have bad : mm_CI mX12_isRefused 899 [.ref 164] m (fun z39 m39 => (z39 = 0 ∨ z39 = 1) ∧ mQ (refA a.1 2, a.2) 0 m z39 m39) := by
        refine rX12_isRefused hGm ?_
        rw [t2]
        exact ⟨Or.inl rfl, rfl, offA_of o1 (fun c j q => by unfold ml; omega), MM_io hmm (offA_M o1) (fun c j q => by unfold k2; omega) i1⟩
      refine rX12_feud hGm (m_areTwo hGm hmm.2.1.2.1 vu.2.1 (fun qp qq qn => ineg (by decide) ?_) (fun q => ipos rfl bad))
      obtain ⟨p, hp, p7, rfl⟩ := isH_nI qp vu.2.1
      obtain ⟨q, hq, q7, rfl⟩ := isH_nI qq vu.2.1
      have hpq : p ≠ q := fun e => qn (by rw [e])
      refine m_isThere hGm hmm.2.2.1.1 p7 ?_
      by_cases ct : a.2.2.1.1.2.1.testBit p = true
      · rw [if_pos ct]
        refine ineg (by decide) (m_isThere hGm hmm.2.2.1.1 q7 ?_)
        by_cases ct2 : a.2.2.1.1.2.1.testBit q = true
        · rw [if_pos ct2]
          refine ineg (by decide) (m_isIn hGm (fun qx => ineg (by decide) (m_hateOf hGm hmm.2.2.1.1 p7 q7 hpq (ite_go (fun _ => bad) (fun c3 => ?_)))) (fun q => ipos rfl bad))
          rw [i64_of, e0, e99] at qx
          exact absurd ⟨p, q, ⟨hp, p7, rfl⟩, ⟨hq, q7, rfl⟩, hpq, ct, ct2, qx, c3⟩ ch
        · rw [if_neg ct2]; exact ipos rfl bad
      · rw [if_neg ct]; exact ipos rfl bad
/-! undo -/
theorem s25 : lw_S25 Inv := by
  intro u M hu hG hI
  refine stepI hI (fun a hv hc hm => ?_)
  have hV : a.2.2.2.2 < 2 ^ 30 := by have := hv.2.2.2.2; omega
  have t4 : (4 : Int32).toNatClampNeg = 4 := rfl
  obtain ⟨c1, c2, p, p20, c3, c6⟩ := (cST_le hc.2.2.1 (by omega : 700 * u ≤ 700 * (u + 1))).2.2
  have er : nI p + 20 - 1 - (nI p + 20 - 1) / 20 * 20 = nI ((p + 19) % 20) := by
    have e1 : nI p + 20 = nI (p + 20) := nI_add p 20
    have e2 : nI (p + 20) - 1 = nI (p + 19) := nI_pred (p + 19)
    rw [e1, e2, r20 (by omega)]
  have hl20 : (p + 19) % 20 < 20 := Nat.mod_lt _ (by decide)
  cases hH : a.2.2.1.2.2 with
  | nil =>
    refine ⟨0, (refA a.1 4, a.2), VV_io hv (refA_v hv.1), ?_, fun m hGm hmm => ?_⟩
    · refine rX11_undo hG (rX4_goBack st37 hG ?_)
      rw [c3, er, nI_clamp (by omega), c2, hH]
      exact ⟨vp_in_nI hl20 (by decide), stc ((p + 19) % 20), stc_G hG hl20, stc_in hl20, ipos rfl (ipos rfl (c_refuse (k := 4) hG hc.1 (by decide) (fun m1 o1 i1 => ⟨rfl, offA_of o1 (fun c j q => by unfold cl; omega), CC_io hc (offA_M o1) (fun c j q => by unfold k1; omega) i1⟩)))⟩
    · obtain ⟨o1, i1⟩ := m_refused hmm.1 (k := 4) (by decide)
      have h79 := hmm.2.2.1.2.2.1
      rw [hH] at h79
      refine rX12_undo hGm ?_
      rw [h79, t4]
      exact ipos rfl ⟨rfl, offA_of o1 (fun c j q => by unfold ml; omega), MM_io hmm (offA_M o1) (fun c j q => by unfold k2; omega) i1⟩
  | cons s H =>
    have vs := hv.2.2.1.2 s (by rw [hH]; exact List.mem_cons_self)
    have hH20 : H.length + 1 ≤ 20 := by rw [hH] at c1; exact c1
    refine ⟨1, actA a a.1 (s.1, s.2, H), VV_act hv hv.1 ⟨vs, fun x hx => hv.2.2.1.2 x (by rw [hH]; exact List.mem_cons_of_mem _ hx)⟩, ?_, fun m hGm hmm => ?_⟩
    · refine rX11_undo hG (rX4_goBack st37 hG ?_)
      rw [c3, er, nI_clamp (by omega), c2, hH]
      have hs0 := c6 0 s (by rw [hH]; rfl)
      rw [Nat.sub_zero] at hs0
      refine ⟨vp_in_nI hl20 (by decide), stc ((p + 19) % 20), stc_G hG hl20, stc_in hl20, ineg (nI_ne0 (n := H.length + 1) (by omega) (by omega)) ?_⟩
      refine c_copyFrom st37 (stc_in hl20) (by unfold stc; omega) hG hs0.1 (fun m1 o1 n1 kk1 => ineg (by decide) ?_)
      have e47 : m1.1 47 2 = nI (H.length + 1) := by rw [o1.1 _ _ (by unfold wCp; omega), c2, hH]; rfl
      rw [uI_j (by decide), e47, nI_pred]
      have o2 : offM (fun c j => c = 47 ∧ (j = 1 ∨ j = 2)) m1 (mm_uI (mm_uI m1 47 1 (nI ((p + 19) % 20))) 47 2 (nI H.length)) := offM_tr (offM_uI (by omega)) (offM_uI (by omega))
      have g1 : (mm_uI (mm_uI m1 47 1 (nI ((p + 19) % 20))) 47 2 (nI H.length)).1 47 1 = nI ((p + 19) % 20) := by rw [uI_j (by decide), uI_at]
      have g2 : (mm_uI (mm_uI m1 47 1 (nI ((p + 19) % 20))) 47 2 (nI H.length)).1 47 2 = nI H.length := uI_at _ _ _ _
      generalize mm_uI (mm_uI m1 47 1 (nI ((p + 19) % 20))) 47 2 (nI H.length) = m2 at o2 g1 g2 ⊢
      have e18 : m2.1 0 18 = nI a.2.2.2.2 := by rw [o2.1 _ _ (by omega), o1.1 _ _ (by unfold wCp; omega)]; exact hc.2.2.2.2.1
      rw [e18, nI_1]
      have o3 : offM (fun c j => c = 0 ∧ j = 18) m2 (mm_uI m2 0 18 (nI (a.2.2.2.2 + 1))) := offM_uI ⟨rfl, rfl⟩
      have s2 : cST (700 * (u + 1)) (s.1, s.2, H) m2 := by
        refine ⟨cN_off n1 o2 (fun c j q => by omega), cK_off (kk1 _ _ hs0.2) o2 (fun c j q => by omega), by show H.length ≤ 20; omega, g2, (p + 19) % 20, hl20, g1, fun k x hx => ?_⟩
        have hx' := c6 (k + 1) x (by rw [hH]; exact hx)
        have hkl : k < H.length := (List.getElem?_eq_some_iff.mp hx).1
        have ei : ((p + 19) % 20 + 19 - k) % 20 = (p + 19 - (k + 1)) % 20 := by omega
        have el : (p + 19 - (k + 1)) % 20 < 20 := Nat.mod_lt _ (by decide)
        rw [ei]
        generalize (p + 19 - (k + 1)) % 20 = i at hx' el
        exact ⟨cN_off (cN_off hx'.1 o1 (fun c j q => by unfold wCp at q; unfold stc; omega)) o2 (fun c j q => by unfold stc; omega), cK_off (cK_off hx'.2 o1 (fun c j q => by unfold wCp at q; unfold stc; omega)) o2 (fun c j q => by unfold stc; omega)⟩
      have o : offM (fun c j => (37 ≤ c ∧ c ≤ 41) ∨ (c = 47 ∧ (j = 1 ∨ j = 2)) ∨ (c = 0 ∧ j = 18)) M (mm_uI m2 0 18 (nI (a.2.2.2.2 + 1))) := offM_tr (offM_tr (offM_mono o1 (fun c j q => by unfold wCp at q; omega)) (offM_mono o2 (fun c j q => by omega))) (offM_mono o3 (fun c j q => by omega))
      exact ⟨rfl, offA_of o (fun c j q => by unfold cl; omega), CC_act hc hV (offA_M o) (fun c j q => by unfold k1 k5 k9; omega) (cIO_off hc.1 (offA_M o) (fun c j q => by omega)) (cST_off s2 (offA_M o3) (fun c j q => by omega)) (uI_at _ _ _ _)⟩
    · obtain ⟨d1, d2, d3, d4, d5⟩ := id hmm
      obtain ⟨h1, h2, h3, q, q20, h5, h6⟩ := d3
      rw [hH] at h3
      have h3 : m.1 164 79 = nI (H.length + 1) := h3
      refine rX12_undo hGm (ineg (by rw [h3]; exact nI_ne0 (by omega) (by omega)) ?_)
      have erq : nI q + 20 - 1 - (nI q + 20 - 1) / 20 * 20 = nI ((q + 19) % 20) := by
        have e1 : nI q + 20 = nI (q + 20) := nI_add q 20
        have e2 : nI (q + 20) - 1 = nI (q + 19) := nI_pred (q + 19)
        rw [e1, e2, r20 (by omega)]
      have hs0 := h6 0 s (by rw [hH]; rfl)
      have eq0 : (q + 20 - 0) % 20 = q := by omega
      rw [eq0] at hs0
      have loop : ∀ (k i : Nat) (m1 : mm_M), i + k = 204 → offM (fun c j => c = 199) m m1 → (∀ j, j < i → m1.1 199 j = m.1 216 (204 * q + j)) → jX12_undo_21 900 m1 (mQ (actA a a.1 (s.1, s.2, H)) 1 m) (nI i) := by
        intro k
        induction k with
        | zero =>
          intro i m1 hi o1 hcp
          obtain rfl : i = 204 := by omega
          have e80 : m1.1 164 80 = nI q := by rw [o1.1 _ _ (by omega)]; exact h5
          have e79 : m1.1 164 79 = nI (H.length + 1) := by rw [o1.1 _ _ (by omega)]; exact h3
          refine lX12_undo_21 (by rw [o1.2.2]; exact hGm) (ipos (by decide) ?_)
          rw [e80, erq, uI_j (by decide), e79, nI_pred]
          have o2 : offM (fun c j => c = 164 ∧ (j = 79 ∨ j = 80)) m1 (mm_uI (mm_uI m1 164 80 (nI ((q + 19) % 20))) 164 79 (nI H.length)) := offM_tr (offM_uI (by omega)) (offM_uI (by omega))
          have g80 : (mm_uI (mm_uI m1 164 80 (nI ((q + 19) % 20))) 164 79 (nI H.length)).1 164 80 = nI ((q + 19) % 20) := by rw [uI_j (by decide), uI_at]
          have g79 : (mm_uI (mm_uI m1 164 80 (nI ((q + 19) % 20))) 164 79 (nI H.length)).1 164 79 = nI H.length := uI_at _ _ _ _
          generalize mm_uI (mm_uI m1 164 80 (nI ((q + 19) % 20))) 164 79 (nI H.length) = m2 at o2 g80 g79 ⊢
          have o : offM (fun c j => c = 199 ∨ (c = 164 ∧ (j = 79 ∨ j = 80))) m m2 := offM_tr (offM_mono o1 (fun c j q => Or.inl q)) (offM_mono o2 (fun c j q => Or.inr q))
          have g : ∀ j, m2.1 216 j = m.1 216 j := fun j => o.1 _ _ (by omega)
          have gr : ∀ j, j < 204 → m2.1 199 j = m.1 216 (204 * q + j) := fun j hj => by rw [o2.1 _ _ (by omega)]; exact hcp j hj
          refine ⟨rfl, offA_of o (fun c j q => by unfold ml; omega), MM_act hmm (offA_M o) (fun c j q z => by unfold k4 k8 k10 at z; omega) (mIO_off d1 (offA_M o) (fun c j q => by omega)) ⟨?_, ?_, g79, (q + 19) % 20, Nat.mod_lt _ (by decide), g80, fun k x hx => ?_⟩⟩
          · exact mN_eq hs0.1 (fun j hj => gr j (by omega))
          · exact mK_eq hs0.2 (fun j _ hj => gr j hj)
          · have hx' := h6 (k + 1) x (by rw [hH]; exact hx)
            have hkl : k < H.length := (List.getElem?_eq_some_iff.mp hx).1
            have ei : ((q + 19) % 20 + 20 - k) % 20 = (q + 20 - (k + 1)) % 20 := by omega
            rw [ei]
            exact ⟨mN_eq hx'.1 (fun j _ => g _), mK_eq hx'.2 (fun j _ _ => g _)⟩
        | succ k ih =>
          intro i m1 hi o1 hcp
          have e80 : m1.1 164 80 = nI q := by rw [o1.1 _ _ (by omega)]; exact h5
          have em : 204 * nI q = nI (204 * q) := pk_mul 204 q
          refine lX12_undo_21 (by rw [o1.2.2]; exact hGm) (ineg (nI_ge (b := 204) (by omega) (by decide)) ?_)
          rw [e80, em, nI_add, nI_1, nI_clamp (n := 204 * q + i) (by omega), nI_clamp (n := i) (by omega), o1.1 216 _ (by omega)]
          refine ⟨vp_in_nI (by omega) (by decide), vp_in_nI (by omega) (by decide), ih (i + 1) _ (by omega) (offM_tr o1 (offM_uI rfl)) (fun j hj => ?_)⟩
          by_cases c : j = i
          · subst c; exact uI_at _ _ _ _
          · rw [uI_j c]; exact hcp j (by omega)
      exact loop 204 0 m (by omega) offM_rf (fun j hj => by omega)
