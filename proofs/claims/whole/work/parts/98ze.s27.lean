/-! ===== ask ===== -/
theorem stepL6 {yc ym : mm_Y} {vc vm : List Value} {u : Nat} {M : mm_M} (hI : Inv u M)
    (h : ∀ a, VV u a → CC u a M → MM a M → M.1 5 12 = 0 → mm_CL yc 900 vc M (fun x m => ∃ a' : dA, VV (u + 1) a' ∧ offA cl M m ∧ CC (u + 1) a' m ∧ ∀ m', mm_G m'.2.2 → MM a m' → mWd m' → mm_CL ym 900 vm m' (mQL a' x m'))) :
    mm_CL yc 900 vc M (fun z1 m1 => mm_CL ym 900 vm m1 (fun z2 m2 => z1 = z2 ∧ Inv (u + 1) m2)) := by
  obtain ⟨⟨a, h1, h2, h3⟩, h5, h6⟩ := hI
  refine mm_CL_mono (h a h1 h2 h3 h5) (fun x m hG ⟨a', v', o, c, hm⟩ => ?_)
  refine mm_CL_mono (hm m hG (MM_off h3 o (fun c j q => q.1)) (mWd_off h6 o (fun c j q => by unfold cl at q; omega))) (fun x2 m2 _ ⟨e2, o2, c2⟩ => ?_)
  exact ⟨e2.symm, ⟨a', v', CC_off c o2 (fun c j q => q.1), c2⟩, by rw [o2.1 _ _ (by unfold ml; omega), o.1 _ _ (by unfold cl; omega)]; exact h5, mWd_off (mWd_off h6 o (fun c j q => by unfold cl at q; omega)) o2 (fun c j q => by unfold ml at q; omega)⟩
theorem stepI6 {yc ym : mm_Y} {vc vm : List Value} {u : Nat} {M : mm_M} (hI : Inv u M)
    (h : ∀ a, VV u a → CC u a M → MM a M → M.1 5 12 = 0 → mm_CI yc 900 vc M (fun x m => ∃ a' : dA, VV (u + 1) a' ∧ offA cl M m ∧ CC (u + 1) a' m ∧ ∀ m', mm_G m'.2.2 → MM a m' → mWd m' → mm_CI ym 900 vm m' (mQ a' x m'))) :
    mm_CI yc 900 vc M (fun z1 m1 => mm_CI ym 900 vm m1 (fun z2 m2 => z1 = z2 ∧ Inv (u + 1) m2)) := by
  obtain ⟨⟨a, h1, h2, h3⟩, h5, h6⟩ := hI
  refine mm_CI_mono (h a h1 h2 h3 h5) (fun x m hG ⟨a', v', o, c, hm⟩ => ?_)
  refine mm_CI_mono (hm m hG (MM_off h3 o (fun c j q => q.1)) (mWd_off h6 o (fun c j q => by unfold cl at q; omega))) (fun x2 m2 _ ⟨e2, o2, c2⟩ => ?_)
  exact ⟨e2.symm, ⟨a', v', CC_off c o2 (fun c j q => q.1), c2⟩, by rw [o2.1 _ _ (by unfold ml; omega), o.1 _ _ (by unfold cl; omega)]; exact h5, mWd_off (mWd_off h6 o (fun c j q => by unfold cl at q; omega)) o2 (fun c j q => by unfold ml at q; omega)⟩
theorem CC_iox {W : Nat → Nat → Prop} {u : Nat} {a : dA} {b : dIO} {M m : mm_M} (h : CC u a M) (ho : offA W M m) (hW : ∀ c j, W c j → k1 c j ∨ c = 16 ∨ c = 17 ∨ c = 20 ∨ (31 ≤ c ∧ c ≤ 34)) (hI : cIO b m) : CC (u + 1) (b, a.2) m := by
  obtain ⟨h1, h2, h3, h4, h5, h6⟩ := CC_up h
  have hr := Rl_at h2.2.2.2.1
  have r' : cRU a.2.1 m := cRU_off h2 ho (fun c j q z => by have := hW c j q; unfold k1 at this; omega)
  refine ⟨hI, r', cST_off h3 ho (fun c j q z => ?_), cSE_off h4 ho (fun c j q z => ?_), ?_, cC_off h6 ho (fun c j q z => ?_)⟩
  · have := hW c j q; unfold k1 at this; omega
  · have := hW c j q; unfold k1 at this; omega
  · rw [ho.1 _ _ (fun q => by have := hW _ _ q; unfold k1 at this; omega)]; exact h5
  · have := hW c j q; unfold k1 at this; omega
theorem MM_iox {W : Nat → Nat → Prop} {a : dA} {b : dIO} {M m : mm_M} (h : MM a M) (ho : offA W M m) (hW : ∀ c j, W c j → ¬ (k4 c j ∨ k6 c j ∨ k8 c j ∨ k10 c j)) (hI : mIO b m) : MM (b, a.2) m := by
  obtain ⟨h1, h2, h3, h4, h5⟩ := h
  exact ⟨hI, mRU_off h2 ho (fun c j q z => hW c j q (Or.inl z)), mST_off h3 ho (fun c j q z => hW c j q (Or.inr (Or.inl z))), mSE_off h4 ho (fun c j q z => hW c j q (Or.inr (Or.inr (Or.inl z)))), mID_off h5 ho (fun c j q z => hW c j q (Or.inr (Or.inr (Or.inr z))))⟩
/-- the text is taken; its fault -/
def ioF (a : dIO) (k p : Int32) : dIO := (a.1, 0, a.2.2.1, k, p, a.2.2.2.2.2)
theorem ioF_v {a : dIO} {k p : Int32} (h : vIO a) : vIO (ioF a k p) := ⟨Nat.zero_le _, h.2⟩
theorem cIO_F {W : Nat → Nat → Prop} {a : dIO} {k p : Int32} {M m : mm_M} (h : cIO a M) (ho : offA W M m) (hW : ∀ c j, W c j → ¬ (c = 1 ∨ c = 2 ∨ c = 3 ∨ (c = 0 ∧ (j = 5 ∨ j = 7)))) (g1 : m.1 0 1 = 0) (g3 : m.1 0 3 = k) (g4 : m.1 0 4 = p) : cIO (ioF a k p) m := by
  obtain ⟨h1, h2, h3, h4, h5, h6, h7, h8⟩ := h
  have g : ∀ c j, (c = 1 ∨ c = 2 ∨ c = 3 ∨ (c = 0 ∧ (j = 5 ∨ j = 7))) → m.1 c j = M.1 c j := fun c j q => ho.1 c j (fun z => hW c j z q)
  exact ⟨fun j hj => by rw [g _ _ (by omega)]; exact h1 j hj, g1, fun j hj => by rw [g _ _ (by omega)]; exact h3 j hj, g3, g4, by rw [g _ _ (by omega)]; exact h6, fun j hj => by rw [g _ _ (by omega)]; exact h7 j hj, by rw [g _ _ (by omega)]; exact h8⟩
theorem mIO_F {W : Nat → Nat → Prop} {a : dIO} {k p : Int32} {M m : mm_M} (h : mIO a M) (ho : offA W M m) (hW : ∀ c j, W c j → ¬ (c = 165 ∨ c = 166 ∨ c = 242 ∨ (c = 164 ∧ (j = 81 ∨ j = 115)))) (g1 : m.1 164 1 = 0) (g3 : m.1 164 7 = k) (g4 : m.1 164 8 = p) : mIO (ioF a k p) m := by
  obtain ⟨h1, h2, h3, h4, h5, h6, h7, h8⟩ := h
  have g : ∀ c j, (c = 165 ∨ c = 166 ∨ c = 242 ∨ (c = 164 ∧ (j = 81 ∨ j = 115))) → m.1 c j = M.1 c j ∧ m.2.1 c j = M.2.1 c j := fun c j q => ⟨ho.1 c j (fun z => hW c j z q), ho.2.1 c j (fun z => hW c j z q)⟩
  exact ⟨fun j hj => by rw [(g _ _ (by omega)).1]; exact h1 j hj, g1, fun j hj => by rw [(g _ _ (by omega)).1]; exact h3 j hj, g3, g4, by rw [(g _ _ (by omega)).2]; exact h6, fun j hj => by rw [(g _ _ (by omega)).1]; exact h7 j hj, by rw [(g _ _ (by omega)).1]; exact h8⟩
theorem glu_0 (T : dT) : glu T 0 = false := by unfold glu; rfl
def wAq (c j : Nat) : Prop := wQs c j ∨ wAz c j ∨ (c = 164 ∧ (j = 1 ∨ j = 3))
/-- the reference asks -/
theorem m_ask0 {T : dT} {M : mm_M} {K : Int64 → mm_M → Prop} (hG : mm_G M.2.2) (h48 : ¬ M.1 164 48 = 0) (hT : T.2 ≤ 1600) (h1 : M.1 164 1 = nI T.2) (hB : ∀ j, j < T.2 → M.1 165 j = T.1 j) (hw : mWd M) (h : ∀ m, offM wAq M m → m.1 164 1 = 0 → mQs T 3 (rn T isBl 0) [] [] [] 0 m → mm_CI mX12_qKind 899 [.ref 164] m (askG 899 K)) : mm_CL mX12_ask 900 [.ref 164] M K := by
  refine rX12_ask (d := 899) hG (ineg h48 ?_)
  have o : offM wAq M (mm_uI (mm_uI (mm_uI (mm_uI (mm_uI (mm_uI (mm_uI (mm_uI (mm_uI (mm_uI (mm_uI M 164 3 (M.1 164 1)) 164 1 0) 164 2 0) 164 4 (-1)) 164 5 0) 164 6 (-1)) 164 49 3) 164 105 0) 164 107 0) 164 108 0) 164 109 0) := by
    refine offM_tr (offM_tr (offM_tr (offM_tr (offM_tr (offM_tr (offM_tr (offM_tr (offM_tr (offM_tr (offM_uI ?_) (offM_uI ?_)) (offM_uI ?_)) (offM_uI ?_)) (offM_uI ?_)) (offM_uI ?_)) (offM_uI ?_)) (offM_uI ?_)) (offM_uI ?_)) (offM_uI ?_)) (offM_uI ?_)
    all_goals (unfold wAq wQs wLx wAz; omega)
  have g : ∀ j x, (mm_uI (mm_uI (mm_uI (mm_uI (mm_uI (mm_uI (mm_uI (mm_uI (mm_uI (mm_uI (mm_uI M 164 3 (M.1 164 1)) 164 1 0) 164 2 0) 164 4 (-1)) 164 5 0) 164 6 (-1)) 164 49 3) 164 105 0) 164 107 0) 164 108 0) 164 109 0).1 164 j = x → True := fun _ _ _ => trivial
  have f3 : (mm_uI (mm_uI (mm_uI (mm_uI (mm_uI (mm_uI (mm_uI (mm_uI (mm_uI (mm_uI (mm_uI M 164 3 (M.1 164 1)) 164 1 0) 164 2 0) 164 4 (-1)) 164 5 0) 164 6 (-1)) 164 49 3) 164 105 0) 164 107 0) 164 108 0) 164 109 0).1 164 3 = nI T.2 := by
    rw [uI_j (by decide), uI_j (by decide), uI_j (by decide), uI_j (by decide), uI_j (by decide), uI_j (by decide), uI_j (by decide), uI_j (by decide), uI_j (by decide), uI_j (by decide), uI_at, h1]
  have f1 : (mm_uI (mm_uI (mm_uI (mm_uI (mm_uI (mm_uI (mm_uI (mm_uI (mm_uI (mm_uI (mm_uI M 164 3 (M.1 164 1)) 164 1 0) 164 2 0) 164 4 (-1)) 164 5 0) 164 6 (-1)) 164 49 3) 164 105 0) 164 107 0) 164 108 0) 164 109 0).1 164 1 = 0 := by
    rw [uI_j (by decide), uI_j (by decide), uI_j (by decide), uI_j (by decide), uI_j (by decide), uI_j (by decide), uI_j (by decide), uI_j (by decide), uI_j (by decide), uI_at]
  have f2 : (mm_uI (mm_uI (mm_uI (mm_uI (mm_uI (mm_uI (mm_uI (mm_uI (mm_uI (mm_uI (mm_uI M 164 3 (M.1 164 1)) 164 1 0) 164 2 0) 164 4 (-1)) 164 5 0) 164 6 (-1)) 164 49 3) 164 105 0) 164 107 0) 164 108 0) 164 109 0).1 164 2 = nI 0 := by
    rw [uI_j (by decide), uI_j (by decide), uI_j (by decide), uI_j (by decide), uI_j (by decide), uI_j (by decide), uI_j (by decide), uI_j (by decide), uI_at]; rfl
  have f4 : (mm_uI (mm_uI (mm_uI (mm_uI (mm_uI (mm_uI (mm_uI (mm_uI (mm_uI (mm_uI (mm_uI M 164 3 (M.1 164 1)) 164 1 0) 164 2 0) 164 4 (-1)) 164 5 0) 164 6 (-1)) 164 49 3) 164 105 0) 164 107 0) 164 108 0) 164 109 0).1 164 4 = -1 := by
    rw [uI_j (by decide), uI_j (by decide), uI_j (by decide), uI_j (by decide), uI_j (by decide), uI_j (by decide), uI_j (by decide), uI_at]
  have f5 : (mm_uI (mm_uI (mm_uI (mm_uI (mm_uI (mm_uI (mm_uI (mm_uI (mm_uI (mm_uI (mm_uI M 164 3 (M.1 164 1)) 164 1 0) 164 2 0) 164 4 (-1)) 164 5 0) 164 6 (-1)) 164 49 3) 164 105 0) 164 107 0) 164 108 0) 164 109 0).1 164 5 = 0 := by
    rw [uI_j (by decide), uI_j (by decide), uI_j (by decide), uI_j (by decide), uI_j (by decide), uI_j (by decide), uI_at]
  have f6 : (mm_uI (mm_uI (mm_uI (mm_uI (mm_uI (mm_uI (mm_uI (mm_uI (mm_uI (mm_uI (mm_uI M 164 3 (M.1 164 1)) 164 1 0) 164 2 0) 164 4 (-1)) 164 5 0) 164 6 (-1)) 164 49 3) 164 105 0) 164 107 0) 164 108 0) 164 109 0).1 164 6 = -1 := by
    rw [uI_j (by decide), uI_j (by decide), uI_j (by decide), uI_j (by decide), uI_j (by decide), uI_at]
  have f49 : (mm_uI (mm_uI (mm_uI (mm_uI (mm_uI (mm_uI (mm_uI (mm_uI (mm_uI (mm_uI (mm_uI M 164 3 (M.1 164 1)) 164 1 0) 164 2 0) 164 4 (-1)) 164 5 0) 164 6 (-1)) 164 49 3) 164 105 0) 164 107 0) 164 108 0) 164 109 0).1 164 49 = nI 3 := by
    rw [uI_j (by decide), uI_j (by decide), uI_j (by decide), uI_j (by decide), uI_at]; rfl
  have f105 : (mm_uI (mm_uI (mm_uI (mm_uI (mm_uI (mm_uI (mm_uI (mm_uI (mm_uI (mm_uI (mm_uI M 164 3 (M.1 164 1)) 164 1 0) 164 2 0) 164 4 (-1)) 164 5 0) 164 6 (-1)) 164 49 3) 164 105 0) 164 107 0) 164 108 0) 164 109 0).1 164 105 = nI 0 := by
    rw [uI_j (by decide), uI_j (by decide), uI_j (by decide), uI_at]; rfl
  have f107 : (mm_uI (mm_uI (mm_uI (mm_uI (mm_uI (mm_uI (mm_uI (mm_uI (mm_uI (mm_uI (mm_uI M 164 3 (M.1 164 1)) 164 1 0) 164 2 0) 164 4 (-1)) 164 5 0) 164 6 (-1)) 164 49 3) 164 105 0) 164 107 0) 164 108 0) 164 109 0).1 164 107 = nI 0 := by
    rw [uI_j (by decide), uI_j (by decide), uI_at]; rfl
  have f108 : (mm_uI (mm_uI (mm_uI (mm_uI (mm_uI (mm_uI (mm_uI (mm_uI (mm_uI (mm_uI (mm_uI M 164 3 (M.1 164 1)) 164 1 0) 164 2 0) 164 4 (-1)) 164 5 0) 164 6 (-1)) 164 49 3) 164 105 0) 164 107 0) 164 108 0) 164 109 0).1 164 108 = nI 0 := by
    rw [uI_j (by decide), uI_at]; rfl
  have f109 : (mm_uI (mm_uI (mm_uI (mm_uI (mm_uI (mm_uI (mm_uI (mm_uI (mm_uI (mm_uI (mm_uI M 164 3 (M.1 164 1)) 164 1 0) 164 2 0) 164 4 (-1)) 164 5 0) 164 6 (-1)) 164 49 3) 164 105 0) 164 107 0) 164 108 0) 164 109 0).1 164 109 = nI 0 := uI_at _ _ _ _
  generalize mm_uI (mm_uI (mm_uI (mm_uI (mm_uI (mm_uI (mm_uI (mm_uI (mm_uI (mm_uI (mm_uI M 164 3 (M.1 164 1)) 164 1 0) 164 2 0) 164 4 (-1)) 164 5 0) 164 6 (-1)) 164 49 3) 164 105 0) 164 107 0) 164 108 0) 164 109 0 = m at o g f1 f2 f3 f4 f5 f6 f49 f105 f107 f108 f109 ⊢
  refine h m o f1 ⟨⟨0, ⟨f3, hT, fun j hj => by rw [o.1 _ _ (by unfold wAq wQs wLx wAz; omega)]; exact hB j hj⟩, f5, f6, Nat.zero_le _, f2, rfl, Or.inl ⟨f4, glu_0 T⟩⟩, f105, fun j c hj => (by cases hj), f107, trivial, f109, f108, f49, by decide, by decide, mWd_off hw (offA_M o) (fun c j q => by unfold wAq wQs wLx wAz at q; omega), fun v hv => (by cases hv)⟩
theorem s27 : lw_S27 Inv := by
  intro u M hu hG hI
  refine stepL6 hI (fun a hv hc hm h5 => ?_)
  have hL := hv.1.1
  have vu : vU a.2.1.2.1 := hv.2.1.1
  have vn : vN a.2.1.2.1 a.2.2.1.1 := hv.2.2.1.1.1
  refine rX11_ask (d := 899) hG (rX11_takeTape hG ?_)
  have o1 : offM (fun c j => c = 0 ∧ j = 1) M (mm_uI M 0 1 0) := offM_uI ⟨rfl, rfl⟩
  have f1 : (mm_uI M 0 1 0).1 0 1 = 0 := uI_at _ _ _ _
  generalize mm_uI M 0 1 0 = m1 at o1 f1 ⊢
  have hG1 : mm_G m1.2.2 := by rw [o1.2.2]; exact hG
  have hr := Rl_at hc.2.1.2.2.2.1
  have hR1 : cRU a.2.1 m1 := cRU_off hc.2.1 (offA_M o1) (fun c j q z => by omega)
  refine c_hasDuchy hG1 hR1 (fun hd => ineg (by decide) ?_) (fun hd => ipos rfl ?_)
  · have h48 : ∀ m', MM a m' → ¬ m'.1 164 48 = 0 := fun m' hm' => by rw [hm'.2.1.1, if_pos hd]; decide
    have mod : ∀ (K : Int64 → mm_M → Prop) m', mm_G m'.2.2 → MM a m' → mWd m' → (∀ m, offM wAq m' m → m.1 164 1 = 0 → mQs (a.1.1, a.1.2.1) 3 (rn (a.1.1, a.1.2.1) isBl 0) [] [] [] 0 m → mm_CI mX12_qKind 899 [.ref 164] m (askG 899 K)) → mm_CL mX12_ask 900 [.ref 164] m' K := fun K m' hGm hmm hw h => m_ask0 (T := (a.1.1, a.1.2.1)) hGm (h48 m' hmm) hL hmm.1.2.1 (fun j hj => hmm.1.1 j (by have : j < a.1.2.1 := hj; omega)) hw h
    have hml : ∀ c j, wAq c j → ml c j := fun c j q => by unfold wAq wQs wLx wAz at q; unfold ml; omega
    have hkk : ∀ c j, wAq c j → ¬ (k4 c j ∨ k6 c j ∨ k8 c j ∨ k10 c j) := fun c j q => by unfold wAq wQs wLx wAz at q; unfold k4 k6 k8 k10; omega
    have hki : ∀ c j, wAq c j → ¬ (c = 165 ∨ c = 166 ∨ c = 242 ∨ (c = 164 ∧ (j = 81 ∨ j = 115))) := fun c j q => by unfold wAq wQs wLx wAz at q; omega
    have hU7 : ∀ m' m, offM wAq m' m → MM a m' → mU a.2.1.2.1 m ∧ mN a.2.2.1.1 m := fun m' m o hmm => ⟨mU_off hmm.2.1.2.1 o (fun c j q => by unfold wAq wQs wLx wAz at q; omega), mN_off hmm.2.2.1.1 o (fun c j q => by unfold wAq wQs wLx wAz at q; omega)⟩
    refine c_readQ (T := (a.1.1, a.1.2.1)) (d := 799) hG1 hL hc.1.2.1 (fun j hj => by rw [o1.1 _ _ (by omega)]; exact hc.1.1 j (by have : j < a.1.2.1 := hj; omega)) (fun m2 kd q' C o2 hG2 ha hkd s2 hCl hev h16 => ?_) (fun m2 k p o2 hG2 ha x2 => ?_)
    · refine rX11_noteFault (by decide) hG2 ?_
      rw [s2.2.2.1]
      have e9 : (mm_uI m2 0 3 0).1 17 9 = -1 := by rw [uI_c (by decide)]; exact s2.2.2.2.1
      rw [e9]
      have o3 : offM (fun c j => c = 0 ∧ (j = 3 ∨ j = 4)) m2 (mm_uI (mm_uI m2 0 3 0) 0 4 (-1)) := offM_tr (offM_uI (by omega)) (offM_uI (by omega))
      have f3 : (mm_uI (mm_uI m2 0 3 0) 0 4 (-1)).1 0 3 = 0 := by rw [uI_j (by decide), uI_at]
      have f4 : (mm_uI (mm_uI m2 0 3 0) 0 4 (-1)).1 0 4 = -1 := uI_at _ _ _ _
      generalize mm_uI (mm_uI m2 0 3 0) 0 4 (-1) = m3 at o3 f3 f4 ⊢
      have o23 : offA (fun c j => wAs c j ∨ (c = 0 ∧ (j = 1 ∨ j = 3 ∨ j = 4))) M m3 := offA_tr (offA_tr (offA_of o1 (fun c j q => by omega)) (offA_mono o2 (fun c j q => Or.inl q))) (offA_of o3 (fun c j q => by omega))
      have hG3 : mm_G m3.2.2 := by rw [o3.2.2]; exact hG2
      have hN3 : cN 37 a.2.2.1.1 m3 := cN_offA hc.2.2.1.1 o23 (fun c j q => by unfold wAs at q; omega)
      have hU3 : cU a.2.1.2.2.2.2 a.2.1.2.1 m3 := cU_offA (hc.2.1.2.2.2.2.2.2.2.2.2.2 hd) o23 (fun c j q => by unfold wAs at q; omega)
      have h14 : m3.1 17 14 = nI C.length := by
        rw [o3.1 _ _ (by omega), s2.2.2.2.2.2.2.1, Nat.zero_add]
      have hcd : ∀ (j c : Nat), C[j]? = some c → (m3.1 20 j).toInt = tau (c : Int) := fun j c hj => by
        have := s2.2.2.2.2.2.2.2.1 j c hj
        rw [Nat.zero_add] at this
        rw [o3.1 _ _ (by omega)]; exact this
      refine ipos f3 (c_answerQ (d := 893) hG3 hU3 hN3 vu vn hkd (by rw [o3.1 _ _ (by omega)]; exact h16) h14 hcd hCl hev (fun m4 o4 => ?_))
      have o24 : offA (fun c j => wAs c j ∨ wTq c j ∨ (c = 0 ∧ (j = 1 ∨ j = 3 ∨ j = 4))) M m4 := offA_tr (offA_mono o23 (fun c j q => by rcases q with q | q; exact Or.inl q; exact Or.inr (Or.inr q))) (offA_of o4 (fun c j q => Or.inr (Or.inl q)))
      refine ⟨(ioF a.1 0 (-1), a.2), VV_io hv (ioF_v hv.1), offA_mono o24 (fun c j q => by unfold wAs wTq at q; unfold cl; omega), CC_iox hc o24 (fun c j q => by unfold wAs wTq at q; unfold k1; omega) (cIO_F hc.1 o24 (fun c j q => by unfold wAs wTq at q; omega) ?_ ?_ ?_), fun m' hGm hmm hw => mod _ m' hGm hmm hw (fun m5 o5 g1 s5 => ?_)⟩
      · rw [o4.1 _ _ (by unfold wTq; omega), o3.1 _ _ (by omega), o2.1 _ _ (by unfold wAs; omega)]; exact f1
      · rw [o4.1 _ _ (by unfold wTq; omega)]; exact f3
      · rw [o4.1 _ _ (by unfold wTq; omega)]; exact f4
      · have hG5 : mm_G m5.2.2 := by rw [o5.2.2]; exact hGm
        refine m_readOk (d := 879) hv.1.2.1 hG5 s5 ha hkd (fun m6 o6 s6 hl6 => ?_)
        have o6' : offM wAq m' m6 := offM_tr o5 (offM_mono o6 (fun c j q => Or.inl q))
        obtain ⟨w1, w2⟩ := hU7 m' m6 o6' hmm
        refine m_133Ok (d := 892) (by rw [o6.2.2]; exact hG5) w1 w2 vu vn hkd s6 hCl hev (fun m7 o7 g7 g8 => ?_)
        have o7' : offM wAq m' m7 := offM_tr o6' (offM_mono o7 (fun c j q => Or.inr (Or.inl q)))
        refine ⟨rfl, offA_of o7' hml, MM_iox hmm (offA_M o7') hkk (mIO_F hmm.1 (offA_M o7') hki ?_ g7 g8)⟩
        rw [o7.1 _ _ (by unfold wAz; omega), o6.1 _ _ (by unfold wQs wLx; omega)]; exact g1
    · refine rX11_noteFault (by decide) hG2 ?_
      rw [x2.1]
      have e9 : (mm_uI m2 0 3 (nI k)).1 17 9 = nI p := by rw [uI_c (by decide)]; exact x2.2.1
      rw [e9]
      have o3 : offM (fun c j => c = 0 ∧ (j = 3 ∨ j = 4)) m2 (mm_uI (mm_uI m2 0 3 (nI k)) 0 4 (nI p)) := offM_tr (offM_uI (by omega)) (offM_uI (by omega))
      have f3 : (mm_uI (mm_uI m2 0 3 (nI k)) 0 4 (nI p)).1 0 3 = nI k := by rw [uI_j (by decide), uI_at]
      have f4 : (mm_uI (mm_uI m2 0 3 (nI k)) 0 4 (nI p)).1 0 4 = nI p := uI_at _ _ _ _
      generalize mm_uI (mm_uI m2 0 3 (nI k)) 0 4 (nI p) = m3 at o3 f3 f4 ⊢
      have o23 : offA (fun c j => wAs c j ∨ (c = 0 ∧ (j = 1 ∨ j = 3 ∨ j = 4))) M m3 := offA_tr (offA_tr (offA_of o1 (fun c j q => by omega)) (offA_mono o2 (fun c j q => Or.inl q))) (offA_of o3 (fun c j q => by omega))
      have hk0 : ¬ m3.1 0 3 = 0 := by
        rw [f3]
        intro z
        have := (nI_eq (a := k) (b := 0) (by have := x2.2.2.2.1; omega) (by decide)).mp z
        have := x2.2.2.1
        omega
      refine ineg hk0 ⟨(ioF a.1 (nI k) (nI p), a.2), VV_io hv (ioF_v hv.1), offA_mono o23 (fun c j q => by unfold wAs at q; unfold cl; omega), CC_iox hc o23 (fun c j q => by unfold wAs at q; unfold k1; omega) (cIO_F hc.1 o23 (fun c j q => by unfold wAs at q; omega) ?_ f3 f4), fun m' hGm hmm hw => mod _ m' hGm hmm hw (fun m5 o5 g1 s5 => ?_)⟩
      · rw [o3.1 _ _ (by omega), o2.1 _ _ (by unfold wAs; omega)]; exact f1
      · have hG5 : mm_G m5.2.2 := by rw [o5.2.2]; exact hGm
        refine m_readX (d := 879) hv.1.2.1 hG5 s5 ha (fun z m6 o6 x6 => ?_)
        have o6' : offM wAq m' m6 := offM_tr o5 (offM_mono o6 (fun c j q => Or.inl q))
        refine m_133X (by rw [o6.2.2]; exact hG5) x6 (fun m7 o7 g7 g8 => ?_)
        have o7' : offM wAq m' m7 := offM_tr o6' (offM_mono o7 (fun c j q => Or.inr (Or.inl q)))
        refine ⟨rfl, offA_of o7' hml, MM_iox hmm (offA_M o7') hkk (mIO_F hmm.1 (offA_M o7') hki ?_ g7 g8)⟩
        rw [o7.1 _ _ (by unfold wAz; omega), o6.1 _ _ (by unfold wQs wLx; omega)]; exact g1
  · refine ⟨(lenA a.1 0, a.2), VV_io hv ⟨Nat.zero_le _, hv.1.2⟩, offA_of o1 (fun c j q => by unfold cl; omega), CC_io hc (offA_M o1) (fun c j q => by unfold k1; omega) ?_, fun m' hGm hmm hw => ?_⟩
    · obtain ⟨h1, h2, h3, h4, h5', h6, h7, h8⟩ := hc.1
      exact ⟨fun j hj => by rw [o1.1 _ _ (by omega)]; exact h1 j hj, f1, fun j hj => by rw [o1.1 _ _ (by omega)]; exact h3 j hj, by rw [o1.1 _ _ (by omega)]; exact h4, by rw [o1.1 _ _ (by omega)]; exact h5', by rw [o1.1 _ _ (by omega)]; exact h6, fun j hj => by rw [o1.1 _ _ (by omega)]; exact h7 j hj, by rw [o1.1 _ _ (by omega)]; exact h8⟩
    · have h48 : m'.1 164 48 = 0 := by rw [hmm.2.1.1, if_neg hd]
      have o2 : offM (fun c j => c = 164 ∧ j = 1) m' (mm_uI m' 164 1 (nI 0)) := offM_uI ⟨rfl, rfl⟩
      exact rX12_ask (d := 899) hGm (ipos h48 ⟨rfl, offA_of o2 (fun c j q => by unfold ml; omega), MM_io hmm (offA_M o2) (fun c j q => by unfold k2; omega) (mIO_len hmm.1)⟩)
