/-! house, hate -/
theorem c_of {u : Nat} {a : dA} {z w : Int32} {M : mm_M} (h : CC u a M) (e : w = z) : cQ u a z M w M := by subst e; exact cQ_same h
theorem m_of {a : dA} {z w : Int32} {M : mm_M} (h : MM a M) (e : w = z) : mQ a z M w M := by subst e; exact mQ_same h
theorem no_h {x : Int32} {u : Nat} {a : dA} (hv : VV u a) (h : isH a.2.1.2.1.2.1 x) : ∃ k, k < a.2.1.2.1.2.1 ∧ k < 7 ∧ x = nI k := isH_nI h hv.2.1.1.2.1
theorem s6 : lw_S6 Inv := by
  intro u M x1 x2 hu hG hI
  refine stepI hI (fun a hv hc hm => ?_)
  have vu := hv.2.1.1
  have vn := hv.2.2.1.1.1
  have hth := vN_lt vu vn
  by_cases ch : isH a.2.1.2.1.2.1 x1
  · obtain ⟨h, hh, h7, rfl⟩ := isH_nI ch vu.2.1
    refine ⟨if x2 = 0 then a.2.2.1.1.2.2.1 h else if x2 = 1 then a.2.1.2.1.2.2.1 h else if x2 = 2 then a.2.2.1.1.2.2.2.1 h else if x2 = 3 then (if a.2.2.1.1.2.1.testBit h then 1 else 0) else if x2 = 4 then nI (cntE a.2.2.1.1 h) else -1, a, VV_up hv, ?_, fun m hGm hmm => ?_⟩
    · refine rX11_house hG (c_isHouse hG hc.2.1 vu.2.1 (fun _ => ineg (by decide) ?_) (fun q => absurd ch q))
      have hN := hc.2.2.1.1
      rw [nI_clamp (by omega)]
      refine ite_go (fun e => ⟨vp_in_nI h7 (by decide), c_of hc (by rw [if_pos e]; exact hN.2.2.1 h h7)⟩) (fun n0 => ?_)
      rw [if_neg n0]
      refine ite_go (fun e => ⟨_, hc.2.1.1, hc.2.1.2.2.2.1, vp_in_nI h7 (by decide), c_of hc (by rw [if_pos e]; exact hc.2.1.2.2.2.2.2.2.2.2.2.1 h h7)⟩) (fun n1 => ?_)
      rw [if_neg n1]
      refine ite_go (fun e => ⟨vp_in_nI h7 (by decide), c_of hc (by rw [if_pos e]; exact hN.2.2.2.1 h h7)⟩) (fun n2 => ?_)
      rw [if_neg n2]
      refine ite_go (fun e => c_isThere st37 hG hN.2.1 hth h7 ?_) (fun n3 => ?_)
      · rw [if_pos e]
        by_cases c : a.2.2.1.1.2.1.testBit h = true
        · rw [if_pos c]; exact ineg (by decide) (cQ_same hc)
        · rw [if_neg c]; exact ipos rfl (cQ_same hc)
      rw [if_neg n3]
      refine ite_go (fun e => c_countEnemies st37 hG hN h7 (c_of hc (by rw [if_pos e]))) (fun n4 => c_of hc (by rw [if_neg n4]))
    · obtain ⟨d1, d2, d3, d4, d5⟩ := id hmm
      refine rX12_house hGm (m_isHouseI hGm d2.2.1 vu.2.1 (fun _ => ineg (by decide) ?_) (fun q => absurd ch q))
      have e7 : (7 : Int32) + nI h = nI (7 + h) := nI_add 7 h
      rw [e7, mx1 h (by omega), nI_clamp (n := 7 + h) (by omega), nI_clamp (n := 1 + 3 * h) (by omega)]
      refine ite_go (fun e => m_flourOf hGm d3.1 h7 (m_of hmm (by rw [if_pos e]))) (fun n0 => ?_)
      rw [if_neg n0]
      refine ite_go (fun e => ⟨vp_in_nI (by omega) (by decide), m_of hmm (by rw [if_pos e]; exact d2.2.1.2.2.1 h hh)⟩) (fun n1 => ?_)
      rw [if_neg n1]
      refine ite_go (fun e => m_hungerOf hGm d3.1 h7 (m_of hmm (by rw [if_pos e]))) (fun n2 => ?_)
      rw [if_neg n2]
      refine ite_go (fun e => ⟨vp_in_nI (by omega) (by decide), m_of hmm (by rw [if_pos e]; exact d3.1.2.1 h h7)⟩) (fun n3 => ?_)
      rw [if_neg n3]
      exact ite_go (fun e => m_enemyMany hGm d2.2.1 d3.1 vu vn h7 (m_of hmm (by rw [if_pos e]))) (fun n4 => m_of hmm (by rw [if_neg n4]))
  · refine ⟨-1, a, VV_up hv, ?_, fun m hGm hmm => ?_⟩
    · exact rX11_house hG (c_isHouse hG hc.2.1 vu.2.1 (fun q => absurd q ch) (fun _ => ipos rfl (cQ_same hc)))
    · exact rX12_house hGm (m_isHouseI hGm hmm.2.1.2.1 vu.2.1 (fun q => absurd q ch) (fun _ => ipos rfl (mQ_same hmm)))
theorem s7 : lw_S7 Inv := by
  intro u M x1 x2 hu hG hI
  refine stepI hI (fun a hv hc hm => ?_)
  have vu := hv.2.1.1
  by_cases ch : isH a.2.1.2.1.2.1 x1 ∧ isH a.2.1.2.1.2.1 x2 ∧ x1 ≠ x2
  · obtain ⟨p, hp, p7, rfl⟩ := isH_nI ch.1 vu.2.1
    obtain ⟨q, hq, q7, rfl⟩ := isH_nI ch.2.1 vu.2.1
    have hpq : p ≠ q := fun e => ch.2.2 (by rw [e])
    refine ⟨a.2.2.1.1.2.2.2.2 p q, a, VV_up hv, ?_, fun m hGm hmm => ?_⟩
    · refine rX11_hate hG (c_arePair hG hc.2.1 vu.2.1 (fun _ _ _ => ineg (by decide) ?_) (fun z => absurd ch z))
      rw [ix8 p (by omega) q (by omega), nI_clamp (by omega)]
      exact ⟨vp_in_nI (by omega) (by decide), c_of hc (hc.2.2.1.1.2.2.2.2 p q p7 q7)⟩
    · exact rX12_hate hGm (m_areTwo hGm hmm.2.1.2.1 vu.2.1 (fun _ _ _ => ineg (by decide) (m_hateOf hGm hmm.2.2.1.1 p7 q7 hpq (mQ_same hmm))) (fun z => absurd ch z))
  · refine ⟨-1, a, VV_up hv, ?_, fun m hGm hmm => ?_⟩
    · exact rX11_hate hG (c_arePair hG hc.2.1 vu.2.1 (fun z1 z2 z3 => absurd ⟨z1, z2, z3⟩ ch) (fun _ => ipos rfl (cQ_same hc)))
    · exact rX12_hate hGm (m_areTwo hGm hmm.2.1.2.1 vu.2.1 (fun z1 z2 z3 => absurd ⟨z1, z2, z3⟩ ch) (fun _ => ipos rfl (mQ_same hmm)))
/-! a change of what the class works with alone -/
theorem CC_sc {W : Nat → Nat → Prop} {u : Nat} {a : dA} {M m : mm_M} (h : CC u a M) (ho : offM W M m) (hW : ∀ c j, W c j → c = 31 ∨ c = 32 ∨ c = 33 ∨ c = 34 ∨ c = 35 ∨ c = 36 ∨ (c = 21 ∧ j = 4) ∨ (42 ≤ c ∧ c ≤ 46)) : CC (u + 1) a m := by
  obtain ⟨h1, h2, h3, h4, h5, h6⟩ := CC_up h
  have hr := Rl_at h2.2.2.2.1
  have ho' := offA_M ho
  refine ⟨cIO_off h1 ho' (fun c j q z => ?_), cRU_off h2 ho' (fun c j q z => ?_), cST_off h3 ho' (fun c j q z => ?_), cSE_off h4 ho' (fun c j q z => ?_), ?_, cC_off h6 ho' (fun c j q z => ?_)⟩
  · have := hW c j q; omega
  · have := hW c j q; omega
  · have := hW c j q; omega
  · have := hW c j q; omega
  · rw [ho.1 _ _ (fun q => by have := hW _ _ q; omega)]; exact h5
  · have := hW c j q; omega
theorem has_d {u : Nat} {a : dA} {x : Int32} (hv : VV u a) (h : isH a.2.1.2.1.2.1 x) : a.2.1.1 = true := by
  cases hb : a.2.1.1 with
  | true => rfl
  | false =>
    have := hv.2.1.2.2.1 hb
    have h1 := h.1
    have h2 := h.2
    omega
/-- the reference's scratch -/
theorem MM_sc {W : Nat → Nat → Prop} {a : dA} {M m : mm_M} (h : MM a M) (ho : offM W M m) (hW : ∀ c j, W c j → ¬ (k2 c j ∨ k4 c j ∨ k6 c j ∨ k8 c j ∨ k10 c j)) : MM a m := by
  obtain ⟨h1, h2, h3, h4, h5⟩ := h
  have ho' := offA_M ho
  exact ⟨mIO_off h1 ho' (fun c j q z => hW c j q (Or.inl z)), mRU_off h2 ho' (fun c j q z => hW c j q (Or.inr (Or.inl z))), mST_off h3 ho' (fun c j q z => hW c j q (Or.inr (Or.inr (Or.inl z)))), mSE_off h4 ho' (fun c j q z => hW c j q (Or.inr (Or.inr (Or.inr (Or.inl z))))), mID_off h5 ho' (fun c j q z => hW c j q (Or.inr (Or.inr (Or.inr (Or.inr z)))))⟩
theorem s9 : lw_S9 Inv := by
  intro u M x1 x2 hu hG hI
  refine stepI hI (fun a hv hc hm => ?_)
  have vu := hv.2.1.1
  have vn := hv.2.2.1.1.1
  by_cases ch : isH a.2.1.2.1.2.1 x1 ∧ isH a.2.1.2.1.2.1 x2 ∧ x1 ≠ x2
  · obtain ⟨p, hp, p7, rfl⟩ := isH_nI ch.1 vu.2.1
    obtain ⟨q, hq, q7, rfl⟩ := isH_nI ch.2.1 vu.2.1
    have hpq : p ≠ q := fun e => ch.2.2 (by rw [e])
    have hd := has_d hv ch.1
    have hin := vn.2.2.2.2.1 p q
    refine ⟨if 0 < a.2.2.1.1.2.2.2.2 p q then tasteA a.2.1.2.1 a.2.2.1.1 p q else -1, a, VV_up hv, ?_, fun m hGm hmm => ?_⟩
    · refine rX11_taste hG (c_arePair hG hc.2.1 vu.2.1 (fun _ _ _ => ineg (by decide) ?_) (fun z => absurd ch z))
      rw [ix8 p (by omega) q (by omega), nI_clamp (by omega), hc.2.2.1.1.2.2.2.2 p q p7 q7]
      refine ⟨vp_in_nI (by omega) (by decide), ?_⟩
      by_cases c : a.2.2.1.1.2.2.2.2 p q = 0
      · exact ipos c (c_of hc (by rw [c]; rfl))
      · refine ineg c (c_tasteOfLoaf st37 hG (hc.2.1.2.2.2.2.2.2.2.2.2.2 hd) hc.2.2.1.1 vu vn p7 q7 (fun m o => ⟨?_, offA_of o (fun c j q => by unfold wM at q; unfold cl; omega), CC_sc hc o (fun c j q => by unfold wM at q; omega)⟩))
        rw [if_pos]
        unfold inI at hin
        have : ¬ (a.2.2.1.1.2.2.2.2 p q).toInt = 0 := fun w => c (i32_eq.mpr w)
        exact i32_lt.mpr (by show (0 : Int) < _; omega)
    · refine rX12_taste hGm (m_areTwo hGm hmm.2.1.2.1 vu.2.1 (fun _ _ _ => ineg (by decide) (m_areEnemies (U := a.2.1.2.1) hGm hmm.2.2.1.1 vn p7 q7 ?_)) (fun z => absurd ch z))
      by_cases c : 0 < a.2.2.1.1.2.2.2.2 p q
      · rw [if_pos c]
        refine ineg (by decide) (m_tasteOf hGm hmm.2.1.2.1 hmm.2.2.1.1 vu vn hp p7 q7 hpq (fun m1 o => ⟨by rw [if_pos c], offA_of o (fun c j q => by unfold wA at q; unfold ml; omega), MM_sc hmm o (fun c j q z => by unfold wA at q; unfold k2 k4 k6 k8 k10 at z; omega)⟩))
      · rw [if_neg c]
        exact ipos rfl (m_of hmm (by rw [if_neg c]))
  · refine ⟨-1, a, VV_up hv, ?_, fun m hGm hmm => ?_⟩
    · exact rX11_taste hG (c_arePair hG hc.2.1 vu.2.1 (fun z1 z2 z3 => absurd ⟨z1, z2, z3⟩ ch) (fun _ => ipos rfl (cQ_same hc)))
    · exact rX12_taste hGm (m_areTwo hGm hmm.2.1.2.1 vu.2.1 (fun z1 z2 z3 => absurd ⟨z1, z2, z3⟩ ch) (fun _ => ipos rfl (mQ_same hmm)))
