/-! ===== calls on tape, faults, refusals, seed ===== -/
theorem CC_io {W : Nat → Nat → Prop} {u : Nat} {a : dA} {b : dIO} {M m : mm_M} (h : CC u a M) (ho : offA W M m) (hW : ∀ c j, W c j → k1 c j) (hI : cIO b m) : CC (u + 1) (b, a.2) m := by
  obtain ⟨h1, h2, h3, h4, h5, h6⟩ := CC_up h
  have hr := Rl_at h2.2.2.2.1
  have r' : cRU a.2.1 m := cRU_off h2 ho (fun c j q z => by have := hW c j q; unfold k1 at this; omega)
  refine ⟨hI, r', cST_off h3 ho (fun c j q z => ?_), cSE_off h4 ho (fun c j q z => ?_), ?_, cC_off h6 ho (fun c j q z => ?_)⟩
  · have := hW c j q; unfold k1 at this; omega
  · have := hW c j q; unfold k1 at this; omega
  · rw [ho.1 _ _ (fun q => by have := hW _ _ q; unfold k1 at this; omega)]; exact h5
  · have := hW c j q; unfold k1 at this; omega
theorem MM_io {W : Nat → Nat → Prop} {a : dA} {b : dIO} {M m : mm_M} (h : MM a M) (ho : offA W M m) (hW : ∀ c j, W c j → k2 c j) (hI : mIO b m) : MM (b, a.2) m := by
  obtain ⟨h1, h2, h3, h4, h5⟩ := h
  refine ⟨hI, mRU_off h2 ho (fun c j q z => ?_), mST_off h3 ho (fun c j q z => ?_), mSE_off h4 ho (fun c j q z => ?_), mID_off h5 ho (fun c j q z => ?_)⟩
  · have := hW c j q; unfold k2 at this; omega
  · have := hW c j q; unfold k2 at this; omega
  · have := hW c j q; unfold k2 at this; omega
  · have := hW c j q; unfold k2 at this; omega
def refA (a : dIO) (k : Nat) : dIO := (a.1, a.2.1, setF a.2.2.1 k (a.2.2.1 k + 1), a.2.2.2)
theorem refA_v {a : dIO} {k : Nat} (h : vIO a) : vIO (refA a k) := h
theorem c_refuse {d k : Nat} {a : dIO} {M : mm_M} {K : Int32 → mm_M → Prop} (hG : mm_G M.2.2) (hI : cIO a M) (hk : k < 6) (hK : ∀ m, offM (fun c _ => c = 2) M m → cIO (refA a k) m → K (-1) m) : mm_CI mX11_refuse d [.ref 0, .int (nI k)] M K := by
  refine rX11_refuse hG (ineg (nI_pos (by omega)) (ineg (nI_ge hk (by decide)) ⟨vp_in_nI hk (by decide), vp_in_nI hk (by decide), ?_⟩))
  rw [nI_clamp (by omega), hI.2.2.1 k hk]
  have o1 : offM (fun c _ => c = 2) M (mm_uI M 2 k (a.2.2.1 k + 1)) := offM_uI rfl
  refine hK _ o1 ?_
  obtain ⟨h1, h2, h3, h4, h5, h6, h7, h8⟩ := hI
  refine ⟨fun j hj => by rw [o1.1 _ _ (by omega)]; exact h1 j hj, by rw [o1.1 _ _ (by omega)]; exact h2, fun j hj => ?_, by rw [o1.1 _ _ (by omega)]; exact h4, by rw [o1.1 _ _ (by omega)]; exact h5, by rw [o1.1 _ _ (by omega)]; exact h6, fun j hj => by rw [o1.1 _ _ (by omega)]; exact h7 j hj, by rw [o1.1 _ _ (by omega)]; exact h8⟩
  show _ = setF a.2.2.1 k (a.2.2.1 k + 1) j
  unfold setF
  by_cases c : j = k
  · subst c; rw [uI_at, if_pos rfl]
  · rw [uI_j c, if_neg c]; exact h3 j hj
theorem m_refused {k : Nat} {a : dIO} {M : mm_M} (hI : mIO a M) (hk : k < 6) : offM (fun c _ => c = 166) M (mm_uI M 166 k (M.1 166 k + 1)) ∧ mIO (refA a k) (mm_uI M 166 k (M.1 166 k + 1)) := by
  have o1 : offM (fun c _ => c = 166) M (mm_uI M 166 k (M.1 166 k + 1)) := offM_uI rfl
  refine ⟨o1, ?_⟩
  obtain ⟨h1, h2, h3, h4, h5, h6, h7, h8⟩ := hI
  refine ⟨fun j hj => by rw [o1.1 _ _ (by omega)]; exact h1 j hj, by rw [o1.1 _ _ (by omega)]; exact h2, fun j hj => ?_, by rw [o1.1 _ _ (by omega)]; exact h4, by rw [o1.1 _ _ (by omega)]; exact h5, by rw [o1.2.1 _ _ (by omega)]; exact h6, fun j hj => by rw [o1.1 _ _ (by omega)]; exact h7 j hj, by rw [o1.1 _ _ (by omega)]; exact h8⟩
  show _ = setF a.2.2.1 k (a.2.2.1 k + 1) j
  unfold setF
  by_cases c : j = k
  · subst c; rw [uI_at, if_pos rfl, h3 j hj]
  · rw [uI_j c, if_neg c]; exact h3 j hj
theorem offA_of {W : Nat → Nat → Prop} {M m : mm_M} {P : Nat → Nat → Prop} (h : offM W M m) (hW : ∀ c j, W c j → P c j) : offA P M m := offA_M (offM_mono h hW)
theorem VV_io {u : Nat} {a : dA} {b : dIO} (h : VV u a) (hb : vIO b) : VV (u + 1) (b, a.2) := ⟨hb, (VV_up h).2⟩
/-! status, fault -/
theorem s3 : lw_S3 Inv := by
  intro u M x1 hu hG hI
  refine stepI hI (fun a hv hc hm => ⟨if x1 = 0 then a.1.2.2.2.1 else if x1 = 1 then a.1.2.2.2.2.1 else -1, a, VV_up hv, ?_, fun m hGm hmm => ?_⟩)
  · refine rX11_fault hG ?_
    rw [hc.1.2.2.2.1, hc.1.2.2.2.2.1]
    by_cases c1 : x1 = 0
    · rw [if_pos c1, if_pos c1]; exact cQ_same hc
    · rw [if_neg c1, if_neg c1]
      by_cases c2 : x1 = 1
      · rw [if_pos c2, if_pos c2]; exact cQ_same hc
      · rw [if_neg c2, if_neg c2]; exact cQ_same hc
  · refine rX12_fault hGm ?_
    rw [hmm.1.2.2.2.1, hmm.1.2.2.2.2.1]
    by_cases c1 : x1 = 0
    · rw [if_pos c1, if_pos c1]; exact mQ_same hmm
    · rw [if_neg c1, if_neg c1]
      by_cases c2 : x1 = 1
      · rw [if_pos c2, if_pos c2]; exact mQ_same hmm
      · rw [if_neg c2, if_neg c2]; exact mQ_same hmm
theorem ix_of {x : Int32} {n : Nat} (hn : n < 2 ^ 31) : (∃ k, k < n ∧ x = nI k) ∨ ¬ (0 ≤ x.toInt ∧ x.toInt < n) := by
  by_cases c : 0 ≤ x.toInt ∧ x.toInt < n
  · exact Or.inl ⟨x.toInt.toNat, by omega, i32_nI c.1⟩
  · exact Or.inr c
theorem s31 : lw_S31 Inv := by
  intro u M x1 hu hG hI
  rcases ix_of (x := x1) (n := 6) (by decide) with ⟨k, hk, rfl⟩ | hno
  · refine stepI hI (fun a hv hc hm => ⟨a.1.2.2.1 k, a, VV_up hv, ?_, fun m hGm hmm => ?_⟩)
    · refine rX11_status hG (ineg (nI_pos (by omega)) (ineg (nI_ge hk (by decide)) ⟨vp_in_nI hk (by decide), ?_⟩))
      rw [nI_clamp (by omega), hc.1.2.2.1 k hk]
      exact cQ_same hc
    · refine rX12_status hGm (m_isIn hGm (fun q => ineg (by decide) ⟨vp_in_nI hk (by decide), ?_⟩) (fun q => ?_))
      · rw [nI_clamp (by omega), hmm.1.2.2.1 k hk]
        exact mQ_same hmm
      · have e0 : (0 : Int64).toInt = 0 := rfl
        have e5 : (5 : Int64).toInt = 5 := rfl
        rw [i64_of, nI_toInt (by omega), e0, e5] at q
        omega
  · refine stepI hI (fun a hv hc hm => ⟨-1, a, VV_up hv, ?_, fun m hGm hmm => ?_⟩)
    · refine rX11_status hG ?_
      have e0 : (0 : Int32).toInt = 0 := rfl
      by_cases c : x1 < 0
      · exact ipos c (cQ_same hc)
      · refine ineg c (ipos (i32_le.mpr ?_) (cQ_same hc))
        have := mt i32_lt.mpr c
        rw [nI_toInt (by decide)]
        omega
    · refine rX12_status hGm (m_isIn hGm (fun q => ?_) (fun q => ipos rfl (mQ_same hmm)))
      have e0 : (0 : Int64).toInt = 0 := rfl
      have e5 : (5 : Int64).toInt = 5 := rfl
      rw [i64_of, e0, e5] at q
      omega
/-! end -/
theorem lt0 {x : Int32} : x < 0 ↔ x.toInt < 0 := i32_lt
theorem le0 {x : Int32} : 0 ≤ x ↔ 0 ≤ x.toInt := i32_le
def lenA (a : dIO) (n : Nat) : dIO := (a.1, n, a.2.2)
theorem cIO_len {a : dIO} {n : Nat} {M : mm_M} (hI : cIO a M) : cIO (lenA a n) (mm_uI M 0 1 (nI n)) := by
  obtain ⟨h1, h2, h3, h4, h5, h6, h7, h8⟩ := hI
  exact ⟨fun j hj => by rw [uI_c (by decide)]; exact h1 j hj, uI_at _ _ _ _, fun j hj => by rw [uI_c (by decide)]; exact h3 j hj, by rw [uI_j (by decide)]; exact h4, by rw [uI_j (by decide)]; exact h5, by rw [uI_j (by decide)]; exact h6, fun j hj => by rw [uI_c (by decide)]; exact h7 j hj, by rw [uI_j (by decide)]; exact h8⟩
theorem mIO_len {a : dIO} {n : Nat} {M : mm_M} (hI : mIO a M) : mIO (lenA a n) (mm_uI M 164 1 (nI n)) := by
  obtain ⟨h1, h2, h3, h4, h5, h6, h7, h8⟩ := hI
  exact ⟨fun j hj => by rw [uI_c (by decide)]; exact h1 j hj, uI_at _ _ _ _, fun j hj => by rw [uI_c (by decide)]; exact h3 j hj, by rw [uI_j (by decide)]; exact h4, by rw [uI_j (by decide)]; exact h5, h6, fun j hj => by rw [uI_c (by decide)]; exact h7 j hj, by rw [uI_j (by decide)]; exact h8⟩
theorem s1 : lw_S1 Inv := by
  intro u M x1 hu hG hI
  refine stepI hI (fun a hv hc hm => ?_)
  have hL := hv.1.1
  by_cases c : 0 ≤ x1.toInt ∧ x1.toInt ≤ a.1.2.1
  · obtain ⟨n, hn, rfl⟩ : ∃ n, n ≤ a.1.2.1 ∧ x1 = nI n := ⟨x1.toInt.toNat, by omega, i32_nI c.1⟩
    refine ⟨1, (lenA a.1 n, a.2), VV_io hv ⟨by show n ≤ 1600; omega, hv.1.2⟩, ?_, fun m hGm hmm => ?_⟩
    · refine rX11_end hG (ineg (nI_pos (by omega)) (ipos (by rw [hc.1.2.1]; exact nI_le hn (by omega)) ?_))
      have o1 : offM (fun c j => c = 0 ∧ j = 1) M (mm_uI M 0 1 (nI n)) := offM_uI ⟨rfl, rfl⟩
      exact ⟨rfl, offA_of o1 (fun c j q => by unfold cl; omega), CC_io hc (offA_M o1) (fun c j q => by unfold k1; omega) (cIO_len hc.1)⟩
    · refine rX12_end hGm (ineg (nI_pos (by omega)) (ipos (by rw [hmm.1.2.1]; exact nI_le hn (by omega)) ?_))
      have o1 : offM (fun c j => c = 164 ∧ j = 1) m (mm_uI m 164 1 (nI n)) := offM_uI ⟨rfl, rfl⟩
      exact ⟨rfl, offA_of o1 (fun c j q => by unfold ml; omega), MM_io hmm (offA_M o1) (fun c j q => by unfold k2; omega) (mIO_len hmm.1)⟩
  · refine ⟨0, (refA a.1 0, a.2), VV_io hv (refA_v hv.1), ?_, fun m hGm hmm => ?_⟩
    · have bad : mm_CI mX11_refuse 899 [.ref 0, .int 0] M (fun z14 m14 => cQ u (refA a.1 0, a.2) 0 M 0 m14) := c_refuse (k := 0) hG hc.1 (by decide) (fun m1 o1 i1 => ⟨rfl, offA_of o1 (fun c j q => by unfold cl; omega), CC_io hc (offA_M o1) (fun c j q => by unfold k1; omega) i1⟩)
      refine rX11_end hG ?_
      by_cases c1 : x1 < 0
      · exact ipos c1 bad
      · refine ineg c1 (ineg (fun q => c ?_) bad)
        rw [hc.1.2.1] at q
        have := i32_le.mp q
        rw [nI_toInt (by omega)] at this
        have := mt lt0.mpr c1
        omega
    · have t0 : (0 : Int32).toNatClampNeg = 0 := rfl
      obtain ⟨o1, i1⟩ := m_refused hmm.1 (k := 0) (by decide)
      have bad : mQ (refA a.1 0, a.2) 0 m 0 (mm_uI m 166 0 (m.1 166 0 + 1)) := ⟨rfl, offA_of o1 (fun c j q => by unfold ml; omega), MM_io hmm (offA_M o1) (fun c j q => by unfold k2; omega) i1⟩
      refine rX12_end hGm ?_
      rw [t0]
      by_cases c1 : x1 < 0
      · exact ipos c1 bad
      · refine ineg c1 (ineg (fun q => c ?_) bad)
        rw [hmm.1.2.1] at q
        have := i32_le.mp q
        rw [nI_toInt (by omega)] at this
        have := mt lt0.mpr c1
        omega
/-! seed, octet -/
def seedA (a : dIO) (s : Nat) : dIO := (a.1, a.2.1, a.2.2.1, a.2.2.2.1, a.2.2.2.2.1, s, a.2.2.2.2.2.2)
theorem s26 : lw_S26 Inv := by
  intro u M x1 hu hG hI
  refine stepI hI (fun a hv hc hm => ?_)
  by_cases c : 0 ≤ x1
  · obtain ⟨s, hs, rfl⟩ := nI_of (x := x1) (fun q => by have := lt0.mp q; have := le0.mp c; omega)
    refine ⟨1, (seedA a.1 s, a.2), VV_io hv ⟨hv.1.1, hv.1.2.1, hs, hv.1.2.2.2⟩, ?_, fun m hGm hmm => ?_⟩
    · refine rX11_seed hG (ipos c ?_)
      have o1 : offM (fun c j => c = 0 ∧ j = 5) M (mm_uI M 0 5 (nI s)) := offM_uI ⟨rfl, rfl⟩
      refine ⟨rfl, offA_of o1 (fun c j q => by unfold cl; omega), CC_io hc (offA_M o1) (fun c j q => by unfold k1; omega) ?_⟩
      obtain ⟨h1, h2, h3, h4, h5, h6, h7, h8⟩ := hc.1
      exact ⟨fun j hj => by rw [uI_c (by decide)]; exact h1 j hj, by rw [uI_j (by decide)]; exact h2, fun j hj => by rw [uI_c (by decide)]; exact h3 j hj, by rw [uI_j (by decide)]; exact h4, by rw [uI_j (by decide)]; exact h5, uI_at _ _ _ _, fun j hj => by rw [uI_c (by decide)]; exact h7 j hj, by rw [uI_j (by decide)]; exact h8⟩
    · refine rX12_seed hGm (ipos c ?_)
      rw [nI_l hs]
      have o1 : offM (fun c j => c = 164 ∧ j = 81) m (mm_uL m 164 81 (lN s)) := offM_uL ⟨rfl, rfl⟩
      refine ⟨rfl, offA_of o1 (fun c j q => by unfold ml; omega), MM_io hmm (offA_M o1) (fun c j q => by unfold k2; omega) ?_⟩
      obtain ⟨h1, h2, h3, h4, h5, h6, h7, h8⟩ := hmm.1
      exact ⟨h1, h2, h3, h4, h5, uL_at _ _ _ _, h7, h8⟩
  · refine ⟨0, (refA a.1 5, a.2), VV_io hv (refA_v hv.1), ?_, fun m hGm hmm => ?_⟩
    · exact rX11_seed hG (ineg c (c_refuse (k := 5) hG hc.1 (by decide) (fun m1 o1 i1 => ⟨rfl, offA_of o1 (fun c j q => by unfold cl; omega), CC_io hc (offA_M o1) (fun c j q => by unfold k1; omega) i1⟩)))
    · have t5 : (5 : Int32).toNatClampNeg = 5 := rfl
      obtain ⟨o1, i1⟩ := m_refused hmm.1 (k := 5) (by decide)
      refine rX12_seed hGm (ineg c ?_)
      rw [t5]
      exact ⟨rfl, offA_of o1 (fun c j q => by unfold ml; omega), MM_io hmm (offA_M o1) (fun c j q => by unfold k2; omega) i1⟩
theorem s29 : lw_S29 Inv := by
  intro u M x1 hu hG hI
  refine stepI hI (fun a hv hc hm => ?_)
  have h45 := hv.1.2.2.2
  obtain ⟨-, -, -, -, -, -, c7, c8⟩ := hc.1
  rcases ix_of (x := x1) (n := a.1.2.2.2.2.2.2.2) (by omega) with ⟨k, hk, rfl⟩ | hno
  · refine ⟨a.1.2.2.2.2.2.2.1 k, a, VV_up hv, ?_, fun m hGm hmm => ?_⟩
    · refine rX11_octet hG (ineg (nI_pos (by omega)) ?_)
      rw [c8, nI_clamp (by omega), c7 k hk]
      exact ineg (nI_ge hk (by omega)) ⟨vp_in_nI (by omega) (by decide), cQ_same hc⟩
    · obtain ⟨-, -, -, -, -, -, d7, d8⟩ := hmm.1
      refine rX12_octet hGm (ineg (nI_pos (by omega)) ?_)
      rw [d8, nI_clamp (by omega), d7 k hk]
      exact ineg (nI_ge hk (by omega)) ⟨vp_in_nI (by omega) (by decide), mQ_same hmm⟩
  · refine ⟨-1, a, VV_up hv, ?_, fun m hGm hmm => ?_⟩
    · refine rX11_octet hG ?_
      by_cases c : x1 < 0
      · exact ipos c (cQ_same hc)
      · refine ineg c (ipos (i32_le.mpr ?_) (cQ_same hc))
        have := mt lt0.mpr c
        rw [c8, nI_toInt (by omega)]
        omega
    · obtain ⟨-, -, -, -, -, -, d7, d8⟩ := hmm.1
      refine rX12_octet hGm ?_
      by_cases c : x1 < 0
      · exact ipos c (mQ_same hmm)
      · refine ineg c (ipos (i32_le.mpr ?_) (mQ_same hmm))
        have := mt lt0.mpr c
        rw [d8, nI_toInt (by omega)]
        omega
