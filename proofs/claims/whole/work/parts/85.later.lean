/-! ===== baker, later, cooled, starves ===== -/
theorem nI_surj (x : Int32) : ∃ c, x = nI c := ⟨x.toBitVec.toNat, by
  rw [i32_eq]
  apply congrArg Int32.toInt
  exact Int32.toBitVec_inj.mp (by show x.toBitVec = BitVec.ofNat 32 x.toBitVec.toNat; rw [BitVec.ofNat_toNat, BitVec.setWidth_eq])⟩
theorem c_goAhead {d r : Nat} {x : Int32} {U : dU} {N : dN} {M : mm_M} {K : Int32 → mm_M → Prop} (hG : mm_G M.2.2) (hU : cU r U M) (hN : cN 37 N M) (vu : vU U) (vn : vN U N) (hd : inI 0 999 N.1) (h1 : ∀ n : Nat, n ≤ 60 → x = nI n → N.1.toInt + n ≤ 999 → ∀ m, offM (wS 42) M m → cN 42 (daysC U 0 n N) m → K 1 m) (h0 : ¬ (0 ≤ x.toInt ∧ x.toInt ≤ 60 ∧ N.1.toInt + x.toInt ≤ 999) → K 0 M) : mm_CI mX11_goAhead (d + 5) [.ref 0, .int x] M K := by
  have e60 : (60 : Int32).toInt = 60 := rfl
  have e999 : (999 : Int32).toInt = 999 := rfl
  refine rX11_goAhead hG (ite_go (fun c => h0 (fun z => by have := lt0.mp c; omega)) (fun c => ite_go (fun c2 => h0 (fun z => by have := i32_lt.mp c2; omega)) (fun c2 => ?_)))
  have c' := mt lt0.mpr c
  have c2' := mt i32_lt.mpr c2
  have hs : (N.1 + x).toInt = N.1.toInt + x.toInt := by
    unfold inI at hd
    rw [Int32.toInt_add, bm32 (by omega) (by omega)]
  rw [hN.1]
  refine ite_go (fun c3 => ?_) (fun c3 => h0 (fun z => c3 (i32_le.mpr (by rw [hs, e999]; omega))))
  have c3' := i32_le.mp c3
  obtain ⟨n, hn, rfl⟩ : ∃ n, n ≤ 60 ∧ x = nI n := ⟨x.toInt.toNat, by omega, i32_nI (by omega)⟩
  rw [hs, nI_toInt (by omega), e999] at c3'
  refine c_copyFrom st42 st37 (by decide) hG hN (fun m1 o1 n1 _ => ?_)
  have loop : ∀ (k i : Nat) (m : mm_M), i + k = n → offM (wS 42) M m → cN 42 (daysC U 0 i N) m → jX11_goAhead_40 (d + 4) (nI n) m K (nI n) (nI i) := by
    intro k
    induction k with
    | zero =>
      intro i m hi ho hNi
      obtain rfl : i = n := by omega
      exact lX11_goAhead_40 (by rw [ho.2.2]; exact hG) (ipos (nI_le (Nat.le_refl _) (by omega)) (h1 i hn rfl c3' m ho hNi))
    | succ k ih =>
      intro i m hi ho hNi
      have hGm : mm_G m.2.2 := by rw [ho.2.2]; exact hG
      refine lX11_goAhead_40 hGm (ineg (nI_ge (by omega) (by omega)) ?_)
      refine c_run (rest := 0) (t := false) st42 hGm (cU_off hU ho (fun c j q => by unfold wS at q; omega)) hNi vu (daysC_v vu vn i) (by decide) (fun m2 R => ?_)
      rw [nI_1]
      exact ih (i + 1) m2 (by omega) (offM_tr ho R.1) R.2.1
  exact loop n 0 m1 (by omega) (offM_mono o1 (fun c j q => by unfold wCp at q; unfold wS; omega)) n1
/-! the reference thinks, and takes it back -/
def wTk (c j : Nat) : Prop := wE c j ∨ c = 200 ∨ (c = 164 ∧ j = 57)
theorem m_think {d n : Nat} {u : Nat} {a : dA} {M : mm_M} {K : mm_M → Prop} (hG : mm_G M.2.2) (hmm : MM a M) (hv : VV u a) (hn : n ≤ 100) (hK : ∀ m, mm_G m.2.2 → offM wTk M m → mN (daysM a.2.1.2.1 0 n a.2.2.1.1) m → mK a.2.2.1.2.1 m → asd (M.1 199) m → K m) : mm_CV mX12_putsAside (d + 12) [.ref 164] M (fun m1 => mm_CV mX12_daysGo (d + 12) [.ref 164, .int (nI n)] m1 K) := by
  obtain ⟨d1, d2, d3, d4, d5⟩ := hmm
  refine m_putsAside hG (fun m1 o1 h57 hA => ?_)
  have hG1 : mm_G m1.2.2 := by rw [o1.2.2]; exact hG
  obtain ⟨c0, h58⟩ := nI_surj (m1.1 164 58)
  refine m_daysGo (rest := 0) (th := true) (L := a.2.2.1.2.1) (c0 := c0) hG1 (mU_off d2.2.1 o1 (fun c j q => by unfold wPa at q; omega)) (mN_off d3.1 o1 (fun c j q => by unfold wPa at q; omega)) hv.2.1.1 hv.2.2.1.1.1 hv.2.2.1.1.2.1 hn (by decide) (by rw [o1.1 _ _ (by unfold wPa; omega)]; exact d5.2.1) (by rw [h57]; rfl) (mK_off d3.2.1 o1 (fun c j q => by unfold wPa at q; omega)) h58 (fun m o n1 k1 _ => ?_)
  rw [show (!true) = false from rfl, runM_th] at k1
  exact hK m (by rw [o.2.2]; exact hG1) (offM_tr (offM_mono o1 (fun c j q => by unfold wPa at q; unfold wTk; omega)) (offM_mono o (fun c j q => Or.inl q))) n1 k1 (asd_off hA o (fun c j q => by unfold wE wA at q; omega))
theorem MM_back {W : Nat → Nat → Prop} {a : dA} {M m : mm_M} (hmm : MM a M) (ho : offM W M m) (hW : ∀ c j, W c j → ¬ (k2 c j ∨ k4 c j ∨ k8 c j ∨ c = 216 ∨ (c = 164 ∧ (j = 66 ∨ j = 79 ∨ j = 80)))) (h199 : ∀ j, j < 43 → m.1 199 j = M.1 199 j) (hL : mK a.2.2.1.2.1 m) (h57 : m.1 164 57 = 0) (h59 : m.1 164 59 = nI 0) : MM a m := by
  obtain ⟨d1, d2, d3, d4, d5⟩ := hmm
  have ho' := offA_M ho
  refine ⟨mIO_off d1 ho' (fun c j q z => hW c j q (Or.inl z)), mRU_off d2 ho' (fun c j q z => hW c j q (Or.inr (Or.inl z))), ?_, mSE_off d4 ho' (fun c j q z => hW c j q (Or.inr (Or.inr (Or.inl z)))), h57, h59, ?_⟩
  · obtain ⟨e1, e2, e3, p, e4, e5, e6⟩ := d3
    have g79 : m.1 164 79 = M.1 164 79 := ho.1 _ _ (fun q => hW _ _ q (by omega))
    have g80 : m.1 164 80 = M.1 164 80 := ho.1 _ _ (fun q => hW _ _ q (by omega))
    refine ⟨mN_eq e1 h199, hL, by rw [g79]; exact e3, p, e4, by rw [g80]; exact e5, fun k s hs => ?_⟩
    have := e6 k s hs
    have g : ∀ j, m.1 216 j = M.1 216 j := fun j => ho.1 _ _ (fun q => hW _ _ q (by omega))
    exact ⟨mN_eq this.1 (fun j _ => g _), mK_eq this.2 (fun j _ _ => g _)⟩
  · rw [ho.1 _ _ (fun q => hW _ _ q (by omega))]; exact d5.2.2
theorem m_back {d : Nat} {a : dA} {M m : mm_M} {K : mm_M → Prop} (hG : mm_G m.2.2) (hmm : MM a M) (ho : offM wTk M m) (hA : asd (M.1 199) m) (hL : mK a.2.2.1.2.1 m) (hK : ∀ m', offA ml M m' → MM a m' → K m') : mm_CV mX12_takesBack (d + 1) [.ref 164] m K := by
  refine m_takesBack hG hA (fun m1 o1 h199 h57 h59 => ?_)
  have o : offM (fun c j => wTk c j ∨ wTb c j) M m1 := offM_tr (offM_mono ho (fun c j q => Or.inl q)) (offM_mono o1 (fun c j q => Or.inr q))
  refine hK m1 (offA_of o (fun c j q => by unfold wTk wE wA wTb at q; unfold ml; omega)) (MM_back hmm o (fun c j q z => ?_) h199 (mK_off hL o1 (fun c j q => by unfold wTb at q; omega)) h57 h59)
  unfold wTk wE wA wTb at q
  unfold k2 k4 k8 at z
  omega
theorem days_eq {u : Nat} {a : dA} (hv : VV u a) {n : Nat} (hn : a.2.2.1.1.1.toInt + n ≤ 999) {rest : Nat} : daysM a.2.1.2.1 rest n a.2.2.1.1 = daysC a.2.1.2.1 rest n a.2.2.1.1 := (daysC_M hv.2.2.1.1.2.1 n hn).symm
theorem s11 : lw_S11 Inv := by
  intro u M x1 x2 x3 hu hG hI
  refine stepI hI (fun a hv hc hm => ?_)
  have vu := hv.2.1.1
  have vn := hv.2.2.1.1.1
  have hd := hv.2.2.1.1.2.1
  have e0 : (0 : Int64).toInt = 0 := rfl
  have e2 : (2 : Int64).toInt = 2 := rfl
  have z2 : (2 : Int32).toInt = 2 := rfl
  by_cases ch : isH a.2.1.2.1.2.1 x1
  · have hdu := has_d hv ch
    have hU := hc.2.1.2.2.2.2.2.2.2.2.2.2 hdu
    obtain ⟨h, hh, h7, rfl⟩ := isH_nI ch vu.2.1
    by_cases cw : 0 ≤ x3.toInt ∧ x3.toInt ≤ 2
    · by_cases cn : 0 ≤ x2.toInt ∧ x2.toInt ≤ 60 ∧ a.2.2.1.1.1.toInt + x2.toInt ≤ 999
      · obtain ⟨n, hn, rfl⟩ : ∃ n, n ≤ 60 ∧ x2 = nI n := ⟨x2.toInt.toNat, by omega, i32_nI cn.1⟩
        have hsum : a.2.2.1.1.1.toInt + n ≤ 999 := by have := cn.2.2; rw [nI_toInt (by omega)] at this; exact this
        refine ⟨if x3 = 0 then (daysC a.2.1.2.1 0 n a.2.2.1.1).2.2.1 h else if x3 = 1 then (daysC a.2.1.2.1 0 n a.2.2.1.1).2.2.2.1 h else (if (daysC a.2.1.2.1 0 n a.2.2.1.1).2.1.testBit h then 1 else 0), a, VV_up hv, ?_, fun m hGm hmm => ?_⟩
        · refine rX11_later hG (c_isHouse hG hc.2.1 vu.2.1 (fun _ => ineg (by decide) (ineg (fun q => by have := lt0.mp q; omega) (ineg (fun q => by have := i32_lt.mp q; omega) ?_))) (fun q => absurd ch q))
          refine c_goAhead hG hU hc.2.2.1.1 vu vn hd (fun n' hn' en' hs' m1 o1 N1 => ineg (by decide) ?_) (fun z => absurd cn z)
          obtain rfl : n = n' := (nI_eq (by omega) (by omega)).mp en'
          have fin : ∀ z, cQ u a z M z m1 := fun z => ⟨rfl, offA_of o1 (fun c j q => by unfold wS at q; unfold cl; omega), CC_sc hc o1 (fun c j q => by unfold wS at q; omega)⟩
          rw [nI_clamp (by omega)]
          refine ite_go (fun e => ⟨vp_in_nI h7 (by decide), ?_⟩) (fun n0 => ?_)
          · rw [if_pos e, N1.2.2.1 h h7]; exact fin _
          rw [if_neg n0]
          refine ite_go (fun e => ⟨vp_in_nI h7 (by decide), ?_⟩) (fun n1 => ?_)
          · rw [if_pos e, N1.2.2.2.1 h h7]; exact fin _
          rw [if_neg n1]
          refine c_isThere st42 (by rw [o1.2.2]; exact hG) N1.2.1 (vN_lt vu (daysC_v vu vn n)) h7 ?_
          by_cases c : (daysC a.2.1.2.1 0 n a.2.2.1.1).2.1.testBit h = true
          · rw [if_pos c]; exact ineg (by decide) (fin _)
          · rw [if_neg c]; exact ipos rfl (fin _)
        · refine rX12_later hGm (m_isHouseI hGm hmm.2.1.2.1 vu.2.1 (fun _ => ineg (by decide) ?_) (fun q => absurd ch q))
          refine m_isAhead (lo := 0) (hi := 60) hGm hmm.2.1 hmm.2.2.1.1 hd (by decide) (by decide) (fun n' _ en' _ hn' _ => ineg (by decide) ?_) (fun z => absurd ⟨hdu, cn⟩ z)
          refine m_isIn hGm (fun _ => ineg (by decide) ?_) (fun q => by rw [i64_of, e0, e2] at q; exact absurd cw q)
          refine m_think (n := n) hGm hmm hv (by omega) (fun m1 hG1 o1 N1 K1 A1 => ?_)
          rw [days_eq hv hsum] at N1
          have back : ∀ z, mm_CV mX12_takesBack 899 [.ref 164] m1 (fun m81 => mQ a z m z m81) := fun z => m_back hG1 hmm o1 A1 K1 (fun m' o' h' => ⟨rfl, o', h'⟩)
          refine ite_go (fun e => m_flourOf hG1 N1 h7 ?_) (fun n0 => ?_)
          · rw [if_pos e]; exact back _
          rw [if_neg n0]
          refine ite_go (fun e => m_hungerOf hG1 N1 h7 ?_) (fun n1 => ?_)
          · rw [if_pos e]; exact back _
          rw [if_neg n1, mx1 h (by omega), nI_clamp (by omega), N1.2.1 h h7]
          exact ⟨vp_in_nI (by omega) (by decide), back _⟩
      · refine ⟨-1, a, VV_up hv, ?_, fun m hGm hmm => ?_⟩
        · exact rX11_later hG (c_isHouse hG hc.2.1 vu.2.1 (fun _ => ineg (by decide) (ineg (fun q => by have := lt0.mp q; omega) (ineg (fun q => by have := i32_lt.mp q; omega) (c_goAhead hG hU hc.2.2.1.1 vu vn hd (fun n' hn' en' hs' => absurd ⟨by rw [en', nI_toInt (by omega)]; omega, by rw [en', nI_toInt (by omega)]; omega, by rw [en', nI_toInt (by omega)]; exact hs'⟩ cn) (fun _ => ipos rfl (cQ_same hc)))))) (fun q => absurd ch q))
        · refine rX12_later hGm (m_isHouseI hGm hmm.2.1.2.1 vu.2.1 (fun _ => ineg (by decide) ?_) (fun q => absurd ch q))
          exact m_isAhead (lo := 0) (hi := 60) hGm hmm.2.1 hmm.2.2.1.1 hd (by decide) (by decide) (fun n' _ en' _ hn' hs' => absurd ⟨by rw [en', nI_toInt (by omega)]; omega, by rw [en', nI_toInt (by omega)]; omega, by rw [en', nI_toInt (by omega)]; exact hs'⟩ cn) (fun _ => ipos rfl (mQ_same hmm))
    · refine ⟨-1, a, VV_up hv, ?_, fun m hGm hmm => ?_⟩
      · exact rX11_later hG (c_isHouse hG hc.2.1 vu.2.1 (fun _ => ineg (by decide) (ite_go (fun _ => cQ_same hc) (fun c1 => ipos (i32_lt.mpr (by have := mt lt0.mpr c1; omega)) (cQ_same hc)))) (fun q => absurd ch q))
      · refine rX12_later hGm (m_isHouseI hGm hmm.2.1.2.1 vu.2.1 (fun _ => ineg (by decide) ?_) (fun q => absurd ch q))
        refine m_isAhead (lo := 0) (hi := 60) hGm hmm.2.1 hmm.2.2.1.1 hd (by decide) (by decide) (fun n' _ en' _ hn' hs' => ineg (by decide) ?_) (fun _ => ipos rfl (mQ_same hmm))
        exact m_isIn hGm (fun q => by rw [i64_of, e0, e2] at q; exact absurd q cw) (fun _ => ipos rfl (mQ_same hmm))
  · refine ⟨-1, a, VV_up hv, ?_, fun m hGm hmm => ?_⟩
    · exact rX11_later hG (c_isHouse hG hc.2.1 vu.2.1 (fun q => absurd q ch) (fun _ => ipos rfl (cQ_same hc)))
    · exact rX12_later hGm (m_isHouseI hGm hmm.2.1.2.1 vu.2.1 (fun q => absurd q ch) (fun _ => ipos rfl (mQ_same hmm)))
theorem s12 : lw_S12 Inv := by
  intro u M x1 x2 x3 hu hG hI
  refine stepI hI (fun a hv hc hm => ?_)
  have vu := hv.2.1.1
  have vn := hv.2.2.1.1.1
  have hd := hv.2.2.1.1.2.1
  by_cases ch : isH a.2.1.2.1.2.1 x1 ∧ isH a.2.1.2.1.2.1 x2 ∧ x1 ≠ x2
  · have hdu := has_d hv ch.1
    have hU := hc.2.1.2.2.2.2.2.2.2.2.2.2 hdu
    obtain ⟨p, hp, p7, rfl⟩ := isH_nI ch.1 vu.2.1
    obtain ⟨q, hq, q7, rfl⟩ := isH_nI ch.2.1 vu.2.1
    have hpq : p ≠ q := fun e => ch.2.2 (by rw [e])
    by_cases cn : 0 ≤ x3.toInt ∧ x3.toInt ≤ 60 ∧ a.2.2.1.1.1.toInt + x3.toInt ≤ 999
    · obtain ⟨n, hn, rfl⟩ : ∃ n, n ≤ 60 ∧ x3 = nI n := ⟨x3.toInt.toNat, by omega, i32_nI cn.1⟩
      have hsum : a.2.2.1.1.1.toInt + n ≤ 999 := by have := cn.2.2; rw [nI_toInt (by omega)] at this; exact this
      refine ⟨(daysC a.2.1.2.1 0 n a.2.2.1.1).2.2.2.2 p q, a, VV_up hv, ?_, fun m hGm hmm => ?_⟩
      · refine rX11_cooled hG (c_arePair hG hc.2.1 vu.2.1 (fun _ _ _ => ineg (by decide) ?_) (fun z => absurd ch z))
        refine c_goAhead hG hU hc.2.2.1.1 vu vn hd (fun n' hn' en' hs' m1 o1 N1 => ineg (by decide) ?_) (fun z => absurd cn z)
        obtain rfl : n = n' := (nI_eq (by omega) (by omega)).mp en'
        rw [ix8 p (by omega) q (by omega), nI_clamp (by omega), N1.2.2.2.2 p q p7 q7]
        exact ⟨vp_in_nI (by omega) (by decide), rfl, offA_of o1 (fun c j q => by unfold wS at q; unfold cl; omega), CC_sc hc o1 (fun c j q => by unfold wS at q; omega)⟩
      · refine rX12_cooled hGm (m_areTwo hGm hmm.2.1.2.1 vu.2.1 (fun _ _ _ => ineg (by decide) ?_) (fun z => absurd ch z))
        refine m_isAhead (lo := 0) (hi := 60) hGm hmm.2.1 hmm.2.2.1.1 hd (by decide) (by decide) (fun n' _ en' _ hn' _ => ineg (by decide) ?_) (fun z => absurd ⟨hdu, cn⟩ z)
        refine m_think (n := n) hGm hmm hv (by omega) (fun m1 hG1 o1 N1 K1 A1 => ?_)
        rw [days_eq hv hsum] at N1
        exact m_hateOf hG1 N1 p7 q7 hpq (m_back hG1 hmm o1 A1 K1 (fun m' o' h' => ⟨rfl, o', h'⟩))
    · refine ⟨-1, a, VV_up hv, ?_, fun m hGm hmm => ?_⟩
      · exact rX11_cooled hG (c_arePair hG hc.2.1 vu.2.1 (fun _ _ _ => ineg (by decide) (c_goAhead hG hU hc.2.2.1.1 vu vn hd (fun n' hn' en' hs' => absurd ⟨by rw [en', nI_toInt (by omega)]; omega, by rw [en', nI_toInt (by omega)]; omega, by rw [en', nI_toInt (by omega)]; exact hs'⟩ cn) (fun _ => ipos rfl (cQ_same hc)))) (fun z => absurd ch z))
      · refine rX12_cooled hGm (m_areTwo hGm hmm.2.1.2.1 vu.2.1 (fun _ _ _ => ineg (by decide) ?_) (fun z => absurd ch z))
        exact m_isAhead (lo := 0) (hi := 60) hGm hmm.2.1 hmm.2.2.1.1 hd (by decide) (by decide) (fun n' _ en' _ hn' hs' => absurd ⟨by rw [en', nI_toInt (by omega)]; omega, by rw [en', nI_toInt (by omega)]; omega, by rw [en', nI_toInt (by omega)]; exact hs'⟩ cn) (fun _ => ipos rfl (mQ_same hmm))
  · refine ⟨-1, a, VV_up hv, ?_, fun m hGm hmm => ?_⟩
    · exact rX11_cooled hG (c_arePair hG hc.2.1 vu.2.1 (fun z1 z2 z3 => absurd ⟨z1, z2, z3⟩ ch) (fun _ => ipos rfl (cQ_same hc)))
    · exact rX12_cooled hGm (m_areTwo hGm hmm.2.1.2.1 vu.2.1 (fun z1 z2 z3 => absurd ⟨z1, z2, z3⟩ ch) (fun _ => ipos rfl (mQ_same hmm)))
/-! baker -/
theorem bt_none {U : dU} {N : dN} {rest e : Nat} (h : ¬ N.2.1.testBit e = true) : (serveA U N rest).2.2.1 e = none := by
  refine (fold_v (P := fun S : dS => S.1.2.1 = N.2.1 ∧ S.2.2.1 e = none) (fun S i hS => ?_) _ _ ⟨rfl, rfl⟩).2
  refine ⟨serveS_d.2.1.trans hS.1, ?_⟩
  unfold serveS
  by_cases c : S.1.2.1.testBit i = true
  · rw [if_pos c]
    cases hp : pickA U S.1 i S.2.1 with
    | none => exact hS.2
    | some b =>
      show setF S.2.2.1 i (some (b, tasteA U S.1 b i)) e = none
      unfold setF
      rw [if_neg (fun q => h (by rw [q, ← hS.1]; exact c))]
      exact hS.2
  · rw [if_neg c]; exact hS.2
theorem s8 : lw_S8 Inv := by
  intro u M x1 hu hG hI
  refine stepI hI (fun a hv hc hm => ?_)
  have vu := hv.2.1.1
  have vn := hv.2.2.1.1.1
  by_cases ch : isH a.2.1.2.1.2.1 x1
  · have hdu := has_d hv ch
    have hU := hc.2.1.2.2.2.2.2.2.2.2.2.2 hdu
    obtain ⟨h, hh, h7, rfl⟩ := isH_nI ch vu.2.1
    refine ⟨bkR ((serveA a.2.1.2.1 a.2.2.1.1 0).2.2.1 h), a, VV_up hv, ?_, fun m hGm hmm => ?_⟩
    · refine rX11_baker hG (c_isHouse hG hc.2.1 vu.2.1 (fun _ => ineg (by decide) (c_copyFrom st42 st37 (by decide) hG hc.2.2.1.1 (fun m1 o1 n1 _ => ?_))) (fun q => absurd ch q))
      refine c_serve (rest := 0) (t := false) st42 (by rw [o1.2.2]; exact hG) (cU_off hU o1 (fun c j q => by unfold wCp at q; omega)) n1 vu vn (by decide) (fun m2 S2 => ?_)
      rw [nI_clamp (by omega), S2.2.2.1 h h7]
      have o : offM (wS 42) M m2 := offM_tr (offM_mono o1 (fun c j q => by unfold wCp at q; unfold wS; omega)) S2.1
      exact ⟨vp_in_nI h7 (by decide), rfl, offA_of o (fun c j q => by unfold wS at q; unfold cl; omega), CC_sc hc o (fun c j q => by unfold wS at q; omega)⟩
    · refine rX12_baker hGm (m_isHouseI hGm hmm.2.1.2.1 vu.2.1 (fun _ => ineg (by decide) (m_isThere hGm hmm.2.2.1.1 h7 ?_)) (fun q => absurd ch q))
      by_cases ct : a.2.2.1.1.2.1.testBit h = true
      · rw [if_pos ct]
        obtain ⟨d1, d2, d3, d4, d5⟩ := id hmm
        refine ineg (by decide) (m_putsAside hGm (fun m1 o1 h57 hA => ?_))
        have hG1 : mm_G m1.2.2 := by rw [o1.2.2]; exact hGm
        refine m_allEat (rest := 0) (th := true) (L := a.2.2.1.2.1) hG1 (mU_off d2.2.1 o1 (fun c j q => by unfold wPa at q; omega)) (mN_off d3.1 o1 (fun c j q => by unfold wPa at q; omega)) vu vn (by decide) (by rw [o1.1 _ _ (by unfold wPa; omega)]; exact d5.2.1) (by rw [h57]; rfl) (mK_off d3.2.1 o1 (fun c j q => by unfold wPa at q; omega)) (fun m2 S2 => ?_)
        obtain ⟨o2, n2, b2, -, -, -, -, -, k2⟩ := S2
        rw [nI_clamp (by omega), b2 h hh]
        exact ⟨vp_in_nI h7 (by decide), m_back (by rw [o2.2.2]; exact hG1) hmm (offM_tr (offM_mono o1 (fun c j q => by unfold wPa at q; unfold wTk; omega)) (offM_mono o2 (fun c j q => Or.inl q))) (asd_off hA o2 (fun c j q => by unfold wE wA at q; omega)) k2 (fun m' o' h' => ⟨rfl, o', h'⟩)⟩
      · rw [if_neg ct]
        refine ipos rfl (m_of hmm ?_)
        rw [bt_none ct]
        rfl
  · refine ⟨-1, a, VV_up hv, ?_, fun m hGm hmm => ?_⟩
    · exact rX11_baker hG (c_isHouse hG hc.2.1 vu.2.1 (fun q => absurd q ch) (fun _ => ipos rfl (cQ_same hc)))
    · exact rX12_baker hGm (m_isHouseI hGm hmm.2.1.2.1 vu.2.1 (fun q => absurd q ch) (fun _ => ipos rfl (mQ_same hmm)))
