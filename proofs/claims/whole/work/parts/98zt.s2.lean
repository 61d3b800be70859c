/-! ===== duchy ===== -/
theorem CC_iod {W : Nat → Nat → Prop} {u : Nat} {a : dA} {b : dIO} {M m : mm_M} (h : CC u a M) (ho : offA W M m) (hW : ∀ c j, W c j → k1 c j ∨ c = 5 ∨ (c = 4 ∧ j = 2) ∨ (r2 a.2.1.2.2.2.2 ≤ c ∧ c ≤ r2 a.2.1.2.2.2.2 + 7)) (hI : cIO b m) : CC (u + 1) (b, a.2) m := by
  obtain ⟨h1, h2, h3, h4, h5, h6⟩ := CC_up h
  have hr := Rl_at h2.2.2.2.1
  have e2 : r2 a.2.1.2.2.2.2 = 30 - a.2.1.2.2.2.2 := rfl
  have r' : cRU a.2.1 m := cRU_off h2 ho (fun c j q z => by have := hW c j q; unfold k1 at this; omega)
  refine ⟨hI, r', cST_off h3 ho (fun c j q z => ?_), cSE_off h4 ho (fun c j q z => ?_), ?_, cC_off h6 ho (fun c j q z => ?_)⟩
  · have := hW c j q; unfold k1 at this; omega
  · have := hW c j q; unfold k1 at this; omega
  · rw [ho.1 _ _ (fun q => by have := hW _ _ q; unfold k1 at this; omega)]; exact h5
  · have := hW c j q; unfold k1 at this; omega
def wDu (r c j : Nat) : Prop := (c = 0 ∧ (j = 1 ∨ j = 3 ∨ j = 4 ∨ j = 11 ∨ j = 18)) ∨ (c = 4 ∧ (j = 1 ∨ j = 2)) ∨ (c = 5 ∧ j ≠ 12) ∨ (c = 21 ∧ j = 0) ∨ (r ≤ c ∧ c ≤ r + 7) ∨ (37 ≤ c ∧ c ≤ 40) ∨ (c = 47 ∧ j = 2) ∨ (c = 159 ∧ j = 0)
def wDm (c j : Nat) : Prop := wM0 c j ∨ (c = 164 ∧ (j = 7 ∨ j = 8)) ∨ wSt c j
/-- the reference takes what was told -/
theorem m_duchyOk {T : dT} {u i q r V : Nat} {R : dR} {a : dA} {m : mm_M} {x : Int32} (hBy : ∀ j, inI 0 255 (T.1 j)) (hT : T = (a.1.1, a.1.2.1)) (hL : a.1.2.1 ≤ 1600) (ht : txOk T i q R) (hx : x = nI i) (hG : mm_G m.2.2) (hmm : MM a m) (hw : mWd m) : mm_CI mX12_duchy 900 [.ref 164] m (mQ (ioF a.1 0 (-1), rA R r, (N0 R, [], []), (0, fun _ => 0), V) x m) := by
  have v := rch_v _ _ _ ht.1
  subst hT
  refine m_duchy0 (T := (a.1.1, a.1.2.1)) hG hL hmm.1.2.1 (fun j hj => hmm.1.1 j (by have : j < a.1.2.1 := hj; omega)) hw (fun m1 y o1 g1 l1 w1 D1 => m_textOk (d := 884) hBy (by rw [o1.2.2]; exact hG) l1 w1 D1 ht (fun m2 o2 D2 => ?_))
  have o12 : offM wM0 m m2 := offM_tr o1 (offM_mono o2 (fun c j z => Or.inl z))
  have hG2 : mm_G m2.2.2 := by rw [o12.2.2]; exact hG
  obtain ⟨p0, -, h5, h6, -⟩ := D2.1
  have g2 : m2.1 164 1 = 0 := by rw [o2.1 _ _ (by unfold wMd wQs wLx; omega)]; exact g1
  refine lX12_duchy_122 hG2 ?_
  rw [h5, uI_j (by decide), uI_j (by decide), uI_j (by decide), h5, h6]
  have o3 : offM (fun c j => c = 164 ∧ (j = 7 ∨ j = 8)) m2 (mm_uI (mm_uI m2 164 7 0) 164 8 (-1)) := offM_tr (offM_uI (by omega)) (offM_uI (by omega))
  have g7 : (mm_uI (mm_uI m2 164 7 0) 164 8 (-1)).1 164 7 = 0 := by rw [uI_j (by decide), uI_at]
  have g8 : (mm_uI (mm_uI m2 164 7 0) 164 8 (-1)).1 164 8 = -1 := uI_at _ _ _ _
  generalize mm_uI (mm_uI m2 164 7 0) 164 8 (-1) = m3 at o3 g7 g8 ⊢
  have D3 : mDs (a.1.1, a.1.2.1) q R i m3 := ⟨mLx_off D2.1 o3 (fun c j z => by omega), mWd_m D2.2.1 o3 (fun c j z => by omega), mDr_off D2.2.2.1 o3 (fun c j z => by omega), by rw [o3.1 _ _ (by omega)]; exact D2.2.2.2⟩
  refine ipos rfl (m_stands (r := r) (by rw [o3.2.2]; exact hG2) D3 v (fun m4 o4 hRU hN hK e79 e72 => ?_))
  have oo : offM wDm m m4 := offM_tr (offM_tr (offM_mono o12 (fun c j z => Or.inl z)) (offM_mono o3 (fun c j z => Or.inr (Or.inl z)))) (offM_mono o4 (fun c j z => Or.inr (Or.inr z)))
  have ooA := offA_M oo
  have hb : ∀ c j, wDm c j → ml c j ∧ ¬ (c = 165 ∨ c = 166 ∨ c = 242 ∨ (c = 164 ∧ (j = 81 ∨ j = 115))) ∧ ¬ (c = 164 ∧ (j = 57 ∨ j = 59 ∨ j = 66)) ∧ ¬ (c = 164 ∧ j = 80) := fun c j z => by
    unfold wDm wM0 wMd wQs wLx wSt at z
    unfold ml
    omega
  obtain ⟨-, -, -, p, hp, h80, -⟩ := hmm.2.2.1
  refine ⟨?_, offA_of oo (fun c j z => (hb c j z).1), mIO_F hmm.1 ooA (fun c j z => (hb c j z).2.1) ?_ ?_ ?_, hRU, ⟨hN, hK, e79, p, hp, ?_, fun k s hs => (by cases hs)⟩, ⟨e72, fun j hj => by have : j < 3 * 0 := hj; omega⟩, mID_off hmm.2.2.2.2 ooA (fun c j z => (hb c j z).2.2.1)⟩
  · rw [hx, o4.1 _ _ (by unfold wSt; omega)]; exact D3.2.2.2
  · rw [o4.1 _ _ (by unfold wSt; omega), o3.1 _ _ (by omega)]; exact g2
  · rw [o4.1 _ _ (by unfold wSt; omega)]; exact g7
  · rw [o4.1 _ _ (by unfold wSt; omega)]; exact g8
  · rw [oo.1 _ _ (fun z => (hb _ _ z).2.2.2 ⟨rfl, rfl⟩)]; exact h80
theorem m_duchyX {T : dT} {k p : Nat} {a : dA} {m : mm_M} (hBy : ∀ j, inI 0 255 (T.1 j)) (hT : T = (a.1.1, a.1.2.1)) (hL : a.1.2.1 ≤ 1600) (ht : txX T k p) (hG : mm_G m.2.2) (hmm : MM a m) (hw : mWd m) : mm_CI mX12_duchy 900 [.ref 164] m (mQ (refA (ioF a.1 (nI k) (nI p)) 1, a.2) (-1) m) := by
  subst hT
  refine m_duchy0 (T := (a.1.1, a.1.2.1)) hG hL hmm.1.2.1 (fun j hj => hmm.1.1 j (by have : j < a.1.2.1 := hj; omega)) hw (fun m1 y o1 g1 l1 w1 D1 => m_textX (d := 884) hBy (by rw [o1.2.2]; exact hG) l1 w1 D1 ht (fun m2 o2 x2 => ?_))
  have o12 : offM wM0 m m2 := offM_tr o1 (offM_mono o2 (fun c j z => Or.inl z))
  have hG2 : mm_G m2.2.2 := by rw [o12.2.2]; exact hG
  have g2 : m2.1 164 1 = 0 := by rw [o2.1 _ _ (by unfold wMd wQs wLx; omega)]; exact g1
  have t1 : (1 : Int32).toNatClampNeg = 1 := rfl
  refine lX12_duchy_122 hG2 ?_
  rw [uI_j (by decide), uI_j (by decide), uI_j (by decide), t1]
  refine ineg (mXn0 x2) ?_
  have o3 : offM (fun c j => c = 164 ∧ (j = 7 ∨ j = 8)) m2 (mm_uI (mm_uI m2 164 7 (m2.1 164 5)) 164 8 (m2.1 164 6)) := offM_tr (offM_uI (by omega)) (offM_uI (by omega))
  have g7 : (mm_uI (mm_uI m2 164 7 (m2.1 164 5)) 164 8 (m2.1 164 6)).1 164 7 = nI k := by rw [uI_j (by decide), uI_at]; exact x2.1
  have g8 : (mm_uI (mm_uI m2 164 7 (m2.1 164 5)) 164 8 (m2.1 164 6)).1 164 8 = nI p := by rw [uI_at]; exact x2.2.1
  generalize mm_uI (mm_uI m2 164 7 (m2.1 164 5)) 164 8 (m2.1 164 6) = m3 at o3 g7 g8 ⊢
  have oo : offM (fun c j => wM0 c j ∨ (c = 164 ∧ (j = 7 ∨ j = 8))) m m3 := offM_tr (offM_mono o12 (fun c j z => Or.inl z)) (offM_mono o3 (fun c j z => Or.inr z))
  have i3 : mIO (ioF a.1 (nI k) (nI p)) m3 := mIO_F hmm.1 (offA_M oo) (fun c j z => by unfold wM0 wMd wQs wLx at z; omega) (by rw [o3.1 _ _ (by omega)]; exact g2) g7 g8
  obtain ⟨o4, i4⟩ := m_refused i3 (k := 1) (by decide)
  have o5 : offM (fun c j => wM0 c j ∨ (c = 164 ∧ (j = 7 ∨ j = 8)) ∨ c = 166) m (mm_uI m3 166 1 (m3.1 166 1 + 1)) := offM_tr (offM_mono oo (fun c j z => by rcases z with z | z; exact Or.inl z; exact Or.inr (Or.inl z))) (offM_mono o4 (fun c j z => Or.inr (Or.inr z)))
  exact ⟨rfl, offA_of o5 (fun c j z => by unfold wM0 wMd wQs wLx at z; unfold ml; omega), MM_iox hmm (offA_M o5) (fun c j z => by unfold wM0 wMd wQs wLx at z; unfold k4 k6 k8 k10; omega) i4⟩
set_option maxHeartbeats 4000000 in
theorem s2 : lw_S2 Inv := by
  intro u M hu hG hI
  refine stepI6 hI (fun a hv hc hm h5 => ?_)
  have hL := hv.1.1
  have hr0 := hc.2.1.2.2.2.1
  have hr' := Rl_at hr0
  have hV := hv.2.2.2.2
  have e2 : r2 a.2.1.2.2.2.2 = 30 - a.2.1.2.2.2.2 := rfl
  have hr : r2 a.2.1.2.2.2.2 ∈ mm_Rls := by
    rcases hr' with e | e
    · rw [e]; decide
    · rw [e]; decide
  refine rX11_duchy (d := 899) hG (rX11_takeTape hG ?_)
  have o1 : offM (fun c j => c = 0 ∧ j = 1) M (mm_uI M 0 1 0) := offM_uI ⟨rfl, rfl⟩
  have f1 : (mm_uI M 0 1 0).1 0 1 = 0 := uI_at _ _ _ _
  generalize mm_uI M 0 1 0 = m1 at o1 f1 ⊢
  have hG1 : mm_G m1.2.2 := by rw [o1.2.2]; exact hG
  refine c_read (T := (a.1.1, a.1.2.1)) (r := r2 a.2.1.2.2.2.2) (d := 799) hr hG1 (by rw [o1.2.2]; exact hc.2.1.2.2.1) hL hc.1.2.1 (fun j hj => by rw [o1.1 _ _ (by omega)]; exact hc.1.1 j (by have : j < a.1.2.1 := hj; omega)) (by rw [o1.1 _ _ (by omega)]; exact h5) (fun m2 i q R w2 hG2 ht D2 => ?_) (fun m2 k p w2 hG2 ht x2 => ?_)
  · have v := rch_v _ _ _ ht.1
    have hi1 : i ≠ 0 := fun z => by
      have := ht.1
      rw [z] at this
      exact this
    have hi60 := ht.2.2
    obtain ⟨⟨tk, P, htk, s, hP, hDr⟩, hi, hb, h4, hq⟩ := D2
    obtain ⟨v1, v2, v3, v4, v5, v6, v7, v8, v9, v10, v11, v12, v13, -⟩ := id v
    have hqL : q ≤ a.1.2.1 := hq
    refine rX11_noteFault (a1 := 5) (by decide) hG2 ?_
    rw [s.2.2.1]
    have e9 : (mm_uI m2 0 3 0).1 5 9 = -1 := by rw [uI_c (by decide)]; exact s.2.2.2.1
    rw [e9]
    have o3 : offM (fun c j => c = 0 ∧ (j = 3 ∨ j = 4)) m2 (mm_uI (mm_uI m2 0 3 0) 0 4 (-1)) := offM_tr (offM_uI (by omega)) (offM_uI (by omega))
    have f3 : (mm_uI (mm_uI m2 0 3 0) 0 4 (-1)).1 0 3 = 0 := by rw [uI_j (by decide), uI_at]
    have f4 : (mm_uI (mm_uI m2 0 3 0) 0 4 (-1)).1 0 4 = -1 := uI_at _ _ _ _
    generalize mm_uI (mm_uI m2 0 3 0) 0 4 (-1) = m3 at o3 f3 f4 ⊢
    have hG3 : mm_G m3.2.2 := by rw [o3.2.2]; exact hG2
    have r11 : m3.2.2 0 11 = some a.2.1.2.2.2.2 := by rw [o3.2.2, w2.2.2 _ _ (by unfold wRd; omega), o1.2.2]; exact hc.2.1.1
    have r41 : m3.2.2 4 1 = some (r2 a.2.1.2.2.2.2) := by rw [o3.2.2]; exact h4
    refine ipos f3 ⟨_, r11, hr0, rX2_exchange hr0 hG3 ⟨_, r41, hr, hr, _, uR_at, hr, _, ?_, hr, ?_⟩⟩
    · exact (uR_off (M := mm_uR (mm_uR m3 4 1 (some a.2.1.2.2.2.2)) 0 11 (some (r2 a.2.1.2.2.2.2))) (a := 21) (k := 0) (x := some (r2 a.2.1.2.2.2.2))).2.2 0 11 (by omega) |>.trans uR_at
    · have q11 : (mm_uR (mm_uR (mm_uR m3 4 1 (some a.2.1.2.2.2.2)) 0 11 (some (r2 a.2.1.2.2.2.2))) 21 0 (some (r2 a.2.1.2.2.2.2))).2.2 0 11 = some (r2 a.2.1.2.2.2.2) := (uR_off (M := mm_uR (mm_uR m3 4 1 (some a.2.1.2.2.2.2)) 0 11 (some (r2 a.2.1.2.2.2.2))) (a := 21) (k := 0) (x := some (r2 a.2.1.2.2.2.2))).2.2 0 11 (by omega) |>.trans uR_at
      have q21 : (mm_uR (mm_uR (mm_uR m3 4 1 (some a.2.1.2.2.2.2)) 0 11 (some (r2 a.2.1.2.2.2.2))) 21 0 (some (r2 a.2.1.2.2.2.2))).2.2 21 0 = some (r2 a.2.1.2.2.2.2) := uR_at
      have q41 : (mm_uR (mm_uR (mm_uR m3 4 1 (some a.2.1.2.2.2.2)) 0 11 (some (r2 a.2.1.2.2.2.2))) 21 0 (some (r2 a.2.1.2.2.2.2))).2.2 4 1 = some a.2.1.2.2.2.2 := by
        rw [uR_off.2.2 _ _ (by omega), uR_off.2.2 _ _ (by omega)]; exact uR_at
      have oR : offA (fun c j => (c = 4 ∧ j = 1) ∨ (c = 0 ∧ j = 11) ∨ (c = 21 ∧ j = 0)) m3 (mm_uR (mm_uR (mm_uR m3 4 1 (some a.2.1.2.2.2.2)) 0 11 (some (r2 a.2.1.2.2.2.2))) 21 0 (some (r2 a.2.1.2.2.2.2))) := offA_tr (offA_tr (offA_mono uR_off (fun c j z => by omega)) (offA_mono uR_off (fun c j z => by omega))) (offA_mono uR_off (fun c j z => by omega))
      have hG4 : mm_G (mm_uR (mm_uR (mm_uR m3 4 1 (some a.2.1.2.2.2.2)) 0 11 (some (r2 a.2.1.2.2.2.2))) 21 0 (some (r2 a.2.1.2.2.2.2))).2.2 := G_uR (G_uR (G_uR hG3 (by omega)) (by omega)) (by omega)
      generalize mm_uR (mm_uR (mm_uR m3 4 1 (some a.2.1.2.2.2.2)) 0 11 (some (r2 a.2.1.2.2.2.2))) 21 0 (some (r2 a.2.1.2.2.2.2)) = m4 at q11 q21 q41 oR hG4 ⊢
      refine c_first (d := 897) (n := R.2.2.1) hr hG4 (by rw [oR.1 _ _ (by omega), o3.1 _ _ (by omega)]; exact hDr.2.2.1.1) v3 (fun m5 o5 g0 g1 g2 gf gh gk => ⟨_, by show m5.2.2 0 11 = _; rw [o5.2.2]; exact q11, hr, ?_⟩)
      have e18 : (mm_uI (mm_uI m5 47 2 0) 159 0 0).1 0 18 = nI a.2.2.2.2 := by
        rw [uI_c (by decide), uI_c (by decide), o5.1 _ _ (by omega), oR.1 _ _ (by omega), o3.1 _ _ (by omega), w2.1 _ _ (by unfold wRd; omega), o1.1 _ _ (by omega)]; exact hc.2.2.2.2.1
      rw [e18, nI_1]
      have o6 : offM (fun c j => (c = 47 ∧ j = 2) ∨ (c = 159 ∧ j = 0) ∨ (c = 0 ∧ j = 18)) m5 (mm_uI (mm_uI (mm_uI m5 47 2 0) 159 0 0) 0 18 (nI (a.2.2.2.2 + 1))) := offM_tr (offM_tr (offM_uI (by omega)) (offM_uI (by omega))) (offM_uI (by omega))
      have z47 : (mm_uI (mm_uI (mm_uI m5 47 2 0) 159 0 0) 0 18 (nI (a.2.2.2.2 + 1))).1 47 2 = nI 0 := by rw [uI_c (by decide), uI_c (by decide), uI_at]; rfl
      have z159 : (mm_uI (mm_uI (mm_uI m5 47 2 0) 159 0 0) 0 18 (nI (a.2.2.2.2 + 1))).1 159 0 = nI 0 := by rw [uI_c (by decide), uI_at]; rfl
      have z18 : (mm_uI (mm_uI (mm_uI m5 47 2 0) 159 0 0) 0 18 (nI (a.2.2.2.2 + 1))).1 0 18 = nI (a.2.2.2.2 + 1) := uI_at _ _ _ _
      generalize mm_uI (mm_uI (mm_uI m5 47 2 0) 159 0 0) 0 18 (nI (a.2.2.2.2 + 1)) = m6 at o6 z47 z159 z18 ⊢
      have oAll : offA (wDu (r2 a.2.1.2.2.2.2)) M m6 := by
        refine offA_tr (offA_tr (offA_tr (offA_tr (offA_tr (offA_of o1 ?_) (offA_mono w2 ?_)) (offA_of o3 ?_)) (offA_mono oR ?_)) (offA_of o5 ?_)) (offA_of o6 ?_)
        · intro c j z; unfold wDu; omega
        · intro c j z; unfold wRd at z; unfold wDu; omega
        · intro c j z; unfold wDu; omega
        · intro c j z; unfold wDu; omega
        · intro c j z; unfold wDu; omega
        · intro c j z; unfold wDu; omega
      have gR : ∀ c j, r2 a.2.1.2.2.2.2 ≤ c → c ≤ r2 a.2.1.2.2.2.2 + 7 → m6.1 c j = m2.1 c j := fun c j c1 c2 => by
        rw [o6.1 _ _ (by omega), o5.1 _ _ (by omega), oR.1 _ _ (by omega), o3.1 _ _ (by omega)]
      have g3 : ∀ j, j ≠ 18 → j ≠ 11 → m6.1 0 j = m3.1 0 j := fun j j1 j2 => by
        rw [o6.1 _ _ (by omega), o5.1 _ _ (by omega), oR.1 _ _ (by omega)]
      have rr : ∀ c j, m6.2.2 c j = m4.2.2 c j := fun c j => by rw [o6.2.2, o5.2.2]
      have hcU : cU (r2 a.2.1.2.2.2.2) (rU R) m6 := by
        refine ⟨by rw [rr]; exact q21, hr, by rw [gR _ _ (by omega) (by omega)]; exact hDr.1, by rw [gR _ _ (by omega) (by omega)]; exact hDr.2.2.1.1, fun h hh => by rw [gR _ _ (by omega) (by omega)]; exact hDr.2.2.2.2.1 h hh, fun k hk => ?_⟩
        obtain ⟨f, e, q1, q2, q3, q4, q5⟩ := hDr.2.2.2.2.2.2 k hk
        refine ⟨f, e, by rw [gR _ _ (by omega) (by omega)]; exact q1, by rw [gR _ _ (by omega) (by omega)]; exact q2, q3, by omega, fun j t htt => ?_⟩
        obtain ⟨c, c1, c2⟩ := q5 j t htt
        have := s.2.2.2.2.2.2.2.1 (f + j) c c1
        rw [Nat.zero_add] at this
        rw [gR _ _ (by omega) (by omega), this]
        exact c2
      have x0 : m6.1 (r2 a.2.1.2.2.2.2) 0 = nI i := by rw [gR _ _ (by omega) (by omega)]; exact hi
      refine ⟨(ioF a.1 0 (-1), rA R (r2 a.2.1.2.2.2.2), (N0 R, [], []), (0, fun _ => 0), a.2.2.2.2 + 1), ⟨ioF_v hv.1, ⟨vU_R v, ?_, fun z => (by cases z), fun _ => ?_⟩, ⟨⟨vN_R v, ?_, fun q hq => (by cases hq)⟩, fun q hq => (by cases hq)⟩, ⟨Nat.zero_le _, fun k hk => ?_⟩, ?_⟩, offA_mono oAll (fun c j z => by unfold wDu at z; unfold cl; omega), ⟨cIO_F hc.1 oAll (fun c j z => by unfold wDu at z; omega) ?_ ?_ ?_, ⟨?_, ?_, ?_, hr, ⟨i, by omega, x0, ?_⟩, ?_, ?_, ?_, fun h k hh hk => ?_, fun h hh => ?_, fun _ => hcU⟩, ⟨⟨?_, ?_, fun h hh => ?_, fun h hh => ?_, fun h k hh hk => ?_⟩, ⟨0, ?_, Nat.zero_le _, rfl, fun k q hq => (by cases hq)⟩, Nat.zero_le _, z47, ?_⟩, ⟨z159, fun j hj => ?_⟩, z18, ?_⟩, fun m' hGm hmm hw => m_duchyOk (u := u) hv.1.2.1 rfl hL ht x0 hGm hmm hw⟩
      · show R.2.1.toInt.toNat ≤ 100
        unfold inI at v2
        omega
      · exact v1.1
      · exact ⟨by show (0 : Int) ≤ (0 : Int32).toInt; decide, by show (0 : Int32).toInt ≤ 999; decide⟩
      · have : k < 0 := hk
        omega
      · show a.2.2.2.2 + 1 ≤ u + 1
        omega
      · rw [g3 1 (by omega) (by omega), o3.1 _ _ (by omega), w2.1 _ _ (by unfold wRd; omega)]; exact f1
      · rw [g3 3 (by omega) (by omega)]; exact f3
      · rw [g3 4 (by omega) (by omega)]; exact f4
      · rw [rr]; exact q11
      · rw [rr]; exact q21
      · rw [rr, q41]
        show some _ = some (r2 (r2 a.2.1.2.2.2.2))
        have : r2 (r2 a.2.1.2.2.2.2) = 30 - r2 a.2.1.2.2.2.2 := rfl
        congr 1
        omega
      · exact ⟨fun _ => rfl, fun _ => by omega⟩
      · show m6.1 (r2 a.2.1.2.2.2.2) 1 = R.1
        rw [gR _ _ (by omega) (by omega)]; exact hDr.1
      · show m6.1 (r2 a.2.1.2.2.2.2) 2 = nI R.2.2.1
        rw [gR _ _ (by omega) (by omega)]; exact hDr.2.2.1.1
      · show m6.1 (r2 a.2.1.2.2.2.2) 3 = nI R.2.1.toInt.toNat
        rw [gR _ _ (by omega) (by omega), hDr.2.1]
        unfold inI at v2
        exact i32_nI (by omega)
      · show m6.1 (r2 a.2.1.2.2.2.2 + 1) (6 * h + k) = R.2.2.2.1 h k
        rw [gR _ _ (by omega) (by omega)]; exact hDr.2.2.1.2 h k hh hk
      · show m6.1 (r2 a.2.1.2.2.2.2 + 3) h = R.2.2.2.2.2.1 h
        rw [gR _ _ (by omega) (by omega)]; exact hDr.2.2.2.2.1 h hh
      · rw [o6.1 _ _ (by omega)]; exact g0
      · rw [o6.1 _ _ (by omega)]; exact g1
      · rw [o6.1 _ _ (by omega), gf h hh, oR.1 _ _ (by omega), o3.1 _ _ (by omega)]; exact hDr.2.2.2.1 h hh
      · rw [o6.1 _ _ (by omega)]; exact gh h hh
      · rw [o6.1 _ _ (by omega), gk (8 * h + k) (by omega), oR.1 _ _ (by omega), o3.1 _ _ (by omega)]; exact hDr.2.2.2.2.2.1 h k hh hk
      · rw [o6.1 _ _ (by omega)]; exact g2
      · obtain ⟨-, -, -, -, p, hp, h47, -⟩ := hc.2.2.1
        exact ⟨p, hp, by rw [oAll.1 _ _ (by unfold wDu; omega)]; exact h47, fun k s hs => (by cases hs)⟩
      · have : j < 3 * 0 := hj
        omega
      · exact cC_new hc.2.2.2.2.2 (by omega) oAll (fun c j z => by unfold wDu at z; omega)
  · refine rX11_noteFault (a1 := 5) (by decide) hG2 ?_
    rw [x2.1]
    have e9 : (mm_uI m2 0 3 (nI k)).1 5 9 = nI p := by rw [uI_c (by decide)]; exact x2.2.1
    rw [e9]
    have o3 : offM (fun c j => c = 0 ∧ (j = 3 ∨ j = 4)) m2 (mm_uI (mm_uI m2 0 3 (nI k)) 0 4 (nI p)) := offM_tr (offM_uI (by omega)) (offM_uI (by omega))
    have f3 : (mm_uI (mm_uI m2 0 3 (nI k)) 0 4 (nI p)).1 0 3 = nI k := by rw [uI_j (by decide), uI_at]
    have f4 : (mm_uI (mm_uI m2 0 3 (nI k)) 0 4 (nI p)).1 0 4 = nI p := uI_at _ _ _ _
    generalize mm_uI (mm_uI m2 0 3 (nI k)) 0 4 (nI p) = m3 at o3 f3 f4 ⊢
    have hG3 : mm_G m3.2.2 := by rw [o3.2.2]; exact hG2
    have hk0 : ¬ m3.1 0 3 = 0 := by
      rw [f3]
      exact nI_n0 x2.2.2.1 (by have := x2.2.2.2.1; omega)
    have o23 : offA (fun c j => wRd (r2 a.2.1.2.2.2.2) c j ∨ (c = 0 ∧ (j = 1 ∨ j = 3 ∨ j = 4))) M m3 := offA_tr (offA_tr (offA_of o1 (fun c j q => by omega)) (offA_mono w2 (fun c j q => Or.inl q))) (offA_of o3 (fun c j q => by omega))
    have i3 : cIO (ioF a.1 (nI k) (nI p)) m3 := cIO_F hc.1 o23 (fun c j q => by unfold wRd at q; omega) (by rw [o3.1 _ _ (by omega), w2.1 _ _ (by unfold wRd; omega)]; exact f1) f3 f4
    refine ineg hk0 (c_refuse (k := 1) hG3 i3 (by decide) (fun m4 o4 i4 => ?_))
    have o24 : offA (fun c j => wRd (r2 a.2.1.2.2.2.2) c j ∨ (c = 0 ∧ (j = 1 ∨ j = 3 ∨ j = 4)) ∨ c = 2) M m4 := offA_tr (offA_mono o23 (fun c j q => by rcases q with q | q; exact Or.inl q; exact Or.inr (Or.inl q))) (offA_of o4 (fun c j q => Or.inr (Or.inr q)))
    exact ⟨(refA (ioF a.1 (nI k) (nI p)) 1, a.2), VV_io hv (refA_v (ioF_v hv.1)), offA_mono o24 (fun c j q => by unfold wRd at q; unfold cl; omega), CC_iod hc o24 (fun c j q => by unfold wRd at q; unfold k1; omega) i4, fun m' hGm hmm hw => m_duchyX hv.1.2.1 rfl hL ht hGm hmm hw⟩
