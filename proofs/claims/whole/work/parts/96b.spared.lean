/-! ===== spared ===== -/
theorem c_canLook {d : Nat} {x : Int32} {N : dN} {M : mm_M} {K : Int32 → mm_M → Prop} (hG : mm_G M.2.2) (hN : cN 37 N M) (hd : inI 0 999 N.1) (h1 : ∀ n : Nat, x = nI n → 1 ≤ n → n ≤ 20 → N.1.toInt + n ≤ 999 → K 1 M) (h0 : ¬ (1 ≤ x.toInt ∧ x.toInt ≤ 20 ∧ N.1.toInt + x.toInt ≤ 999) → K 0 M) : mm_CI mX11_canLookAtSets d [.ref 0, .int x] M K := by
  have e1 : (1 : Int32).toInt = 1 := rfl
  have e20 : (20 : Int32).toInt = 20 := rfl
  have e999 : (999 : Int32).toInt = 999 := rfl
  refine rX11_canLookAtSets hG (ite_go (fun c => h0 (fun z => by have := i32_lt.mp c; omega)) (fun c => ite_go (fun c2 => h0 (fun z => by have := i32_lt.mp c2; omega)) (fun c2 => ?_)))
  have c' := mt i32_lt.mpr c
  have c2' := mt i32_lt.mpr c2
  have hs : (N.1 + x).toInt = N.1.toInt + x.toInt := by
    unfold inI at hd
    rw [Int32.toInt_add, bm32 (by omega) (by omega)]
  rw [hN.1]
  refine ite_go (fun c3 => h0 (fun z => by have := i32_lt.mp c3; omega)) (fun c3 => ?_)
  have c3' := mt i32_lt.mpr c3
  exact h1 x.toInt.toNat (i32_nI (by omega)) (by omega) (by omega) (by omega)
theorem cC_spare {V n : Nat} {U : dU} {N : dN} {S : dSE} {M m : mm_M} (h : cC V U N S M) (hV : V < 2 ^ 30) (hn : n ≤ 20) (ho : offM wSp M m) (h3 : m.1 156 3 = nI V) (h4 : m.1 156 4 = nI n) (ht : spareR U N n m) : cC V U N S m := by
  obtain ⟨⟨a1, a2, a3, a4, a5⟩, b1, b2, b3, b4, b5⟩ := h
  have g : ∀ c j, ¬ wSp c j → m.1 c j = M.1 c j := fun c j q => ho.1 c j q
  have g149 : ∀ j, m.1 149 j = M.1 149 j := fun j => g _ _ (by unfold wSp wS; omega)
  have g159 : ∀ j, m.1 159 j = M.1 159 j := fun j => g _ _ (by unfold wSp wS; omega)
  refine ⟨⟨by rw [g149]; exact a1, by rw [g149]; exact a2, by rw [h3]; exact nofut_self V hV, by rw [g159]; exact a4, by rw [g159]; exact a5⟩, fun q => ?_, fun q => ?_, fun n' n1 n2 _ q2 => ?_, fun h hh q1 q2 => ?_, fun h hh q1 q2 => ?_⟩
  · rw [g149] at q
    obtain ⟨t1, t2, t3⟩ := b1 q
    exact ⟨by rw [g149]; exact t1, by rw [g149]; exact t2, fun e he => by rw [g 150 e (by unfold wSp wS; omega)]; exact t3 e he⟩
  · rw [g149] at q
    exact wantR_of (b2 q) (g149 3) (fun k => g 151 k (by unfold wSp wS; omega))
  · rw [h4] at q2
    obtain rfl : n = n' := (nI_eq (by omega) (by omega)).mp q2
    exact ht
  · rw [g159] at q1 q2
    obtain ⟨t1, t2, t3, t4⟩ := b4 h hh q1 q2
    exact ⟨by rw [g159]; exact t1, by rw [g159]; exact t2, by rw [g159]; exact t3, fun v hv => by rw [g 161 v (by unfold wSp wS; omega)]; exact t4 v hv⟩
  · rw [g159] at q1 q2
    obtain ⟨t1, t2, t3⟩ := b5 h hh q1 q2
    exact ⟨by rw [g159]; exact t1, by rw [g159]; exact t2, by rw [g159]; exact t3⟩
def wSM (c j : Nat) : Prop := wTk c j ∨ c = 208 ∨ c = 209
theorem s16 : lw_S16 Inv := by
  intro u M x1 x2 hu hG hI
  refine stepI hI (fun a hv hc hm => ?_)
  have vu := hv.2.1.1
  have vn := hv.2.2.1.1.1
  have hd := hv.2.2.1.1.2.1
  have hV : a.2.2.2.2 < 2 ^ 30 := by have := hv.2.2.2.2; omega
  have m1' : (-1 : Int32).toInt = -1 := rfl
  by_cases cn : a.2.1.1 = true ∧ 1 ≤ x1.toInt ∧ x1.toInt ≤ 20 ∧ a.2.2.1.1.1.toInt + x1.toInt ≤ 999
  · obtain ⟨hdu, n1, n2, n3⟩ := cn
    have hU := hc.2.1.2.2.2.2.2.2.2.2.2.2 hdu
    obtain ⟨n, hn1, hn, rfl⟩ : ∃ n, 1 ≤ n ∧ n ≤ 20 ∧ x1 = nI n := ⟨x1.toInt.toNat, by omega, by omega, i32_nI (by omega)⟩
    have hsum : a.2.2.1.1.1.toInt + n ≤ 999 := by rw [nI_toInt (by omega)] at n3; exact n3
    have cn' : a.2.1.1 = true ∧ 1 ≤ (nI n).toInt ∧ (nI n).toInt ≤ 20 ∧ a.2.2.1.1.1.toInt + (nI n).toInt ≤ 999 := ⟨hdu, n1, n2, n3⟩
    have h21 : (feudP a.2.2.1.1).length ≤ 24 := by
      have := sumE_7 vn
      have h49 := sumE_le a.2.2.1.1 7
      rw [feudP_len]
      omega
    by_cases c10 : (feudP a.2.2.1.1).length ≤ 10
    · have hv' : ∀ p ∈ feudP a.2.2.1.1, p / 8 < p % 8 ∧ p % 8 < 7 := fun p hp => ⟨(feudP_v hp).1, (feudP_v hp).2.1⟩
      have h2l : 2 ^ (feudP a.2.2.1.1).length ≤ 1024 := (Nat.pow_le_pow_right (by decide) c10 : 2 ^ (feudP a.2.2.1.1).length ≤ 2 ^ 10)
      obtain ⟨b, b1, b2, b3⟩ := bestP_ex (U := a.2.1.2.1) (N := a.2.2.1.1) (n := n) (2 ^ (feudP a.2.2.1.1).length) (Nat.le_refl _) (Nat.two_pow_pos _)
      have hB : bestP a.2.1.2.1 a.2.2.1.1 n b := ⟨b1, b2, b3⟩
      have hb1024 : b < 1024 := by omega
      refine ⟨if x2 = -1 then nI (pop b) else if 0 ≤ x2.toInt then nthB (feudP a.2.2.1.1) b x2.toInt.toNat else -1, a, VV_up hv, ?_, fun m hGm hmm => ?_⟩
      · refine rX11_spared hG (c_hasDuchy hG hc.2.1 (fun _ => ineg (by decide) (c_canLook hG hc.2.2.1.1 hd (fun n' en' _ _ _ => ineg (by decide) ?_) (fun z => absurd cn'.2 z))) (fun q => absurd hdu q))
        refine c_countFeuds st37 hG hc.2.2.1.1 vn (ipos (nI_le (b := 10) c10 (by decide)) ?_)
        rw [hc.2.2.2.2.1]
        refine c_spare hG hU hc.2.2.1.1 vu vn c10 hn1 hn (fun q1 q2 => hc.2.2.2.2.2.2.2.2.1 n hn1 hn q1 q2) (fun m1 o1 g3 g4 t1 => ?_)
        have t1' := t1
        obtain ⟨-, b', hb', q0, q2, q3⟩ := t1
        obtain rfl : b = b' := bestP_uniq c10 hB hb'
        have fin : ∀ z, cQ u a z M z m1 := fun z => ⟨rfl, offA_of o1 (fun c j q => by unfold wSp wS at q; unfold cl; omega), CC_cc hc o1 (fun c j q => by unfold wSp wS at q; omega) (cC_spare hc.2.2.2.2.2 hV hn o1 g3 g4 t1')⟩
        have hG1 : mm_G m1.2.2 := by rw [o1.2.2]; exact hG
        refine ite_go (fun e => ?_) (fun e => ?_)
        · rw [if_pos e, q0]; exact c_bitCount hG1 hb1024 (fin _)
        · rw [if_neg e]; exact c_sparedPair hG1 ⟨q2, q3⟩ c10 hb1024 q0 (fin _)
      · obtain ⟨d1, d2, d3, d4, d5⟩ := id hmm
        refine rX12_spared hGm (m_isAhead (lo := 1) (hi := 20) hGm d2 d3.1 hd (by decide) (by decide) (fun n' _ en' _ hn' _ => ineg (by decide) ?_) (fun z => absurd cn' z))
        refine ite_go (fun cx => ?_) (fun cx => m_of hmm ?_)
        · have cx' := i32_le.mp cx
          refine m_laysFeuds hGm d2.2.1 d3.1 vu vn (fun m1 o1 f1 => ipos (nI_le (b := 10) c10 (by decide)) ?_)
          have hG1 : mm_G m1.2.2 := by rw [o1.2.2]; exact hGm
          refine m_putsAside hG1 (fun m2 o2 h57 hA => ?_)
          have hG2 : mm_G m2.2.2 := by rw [o2.2.2]; exact hG1
          have eA : ∀ j, j < 43 → m1.1 199 j = m.1 199 j := fun j _ => o1.1 _ _ (by unfold wF; omega)
          have o12 : offM wSM m m2 := offM_tr (offM_mono o1 (fun c j q => by unfold wF at q; unfold wSM; omega)) (offM_mono o2 (fun c j q => by unfold wPa at q; unfold wSM wTk; omega))
          have A2 : asd (m.1 199) m2 := fun j hj => (hA j hj).trans (eA j hj)
          have st : ∀ m3, offM wE m2 m3 → (∀ j, j < 43 → m3.1 199 j = m.1 199 j) → mm_G m3.2.2 ∧ mU a.2.1.2.1 m3 ∧ mN a.2.2.1.1 m3 ∧ mFr (feudP a.2.2.1.1) m3 ∧ m3.1 164 57 = 1 ∧ m3.1 164 59 = nI 0 ∧ offM wSM m m3 := fun m3 o3 h3 => by
            have o : offM wSM m m3 := offM_tr o12 (offM_mono o3 (fun c j q => by unfold wSM wTk; exact Or.inl (Or.inl q)))
            exact ⟨by rw [o3.2.2]; exact hG2, mU_off d2.2.1 o (fun c j q => by unfold wSM wTk wE wA at q; omega), mN_eq d3.1 h3, mFr_off (mFr_off f1 o2 (fun c j q => by unfold wPa at q; omega)) o3 (fun c j q => by unfold wE wA at q; omega), by rw [o3.1 _ _ (by unfold wE wA; omega)]; exact h57, by rw [o.1 _ _ (by unfold wSM wTk wE wA; omega)]; exact d5.2.1, o⟩
          have left : ∀ (m3 : mm_M) (s : Nat) (K : Int32 → mm_M → Prop), offM wE m2 m3 → (∀ j, j < 43 → m3.1 199 j = m.1 199 j) → asd (m.1 199) m3 → mK a.2.2.1.2.1 m3 → s < 1024 → (∀ m4, offM wE m2 m4 → (∀ j, j < 43 → m4.1 199 j = m.1 199 j) → asd (m.1 199) m4 → mK a.2.2.1.2.1 m4 → K (nI (leftA a.2.1.2.1 a.2.2.1.1 n s)) m4) → mm_CI mX12_leftBy 899 [.ref 164, .int (nI s), .int (nI (feudP a.2.2.1.1).length), .int (nI n)] m3 K := fun m3 s K o3 h3 A3 L3 hs hk => by
            obtain ⟨w1, w2, w3, w4, w5, w6, w7⟩ := st m3 o3 h3
            exact m_leftBy (f := m.1 199) (L := a.2.2.1.2.1) w1 w2 w3 vu vn hd w4 c10 hs hsum (by omega) w5 w6 A3 L3 (fun m4 o4 h4 A4 L4 => hk m4 (offM_tr o3 o4) h4 A4 L4)
          have hlv : ∀ s, leftA a.2.1.2.1 a.2.2.1.1 n s < 128 := fun s => by
            unfold leftA
            exact vN_lt vu (daysC_v vu (endA_v vn hv').1 n)
          have hk2 : mK a.2.2.1.2.1 m2 := mK_off (mK_off d3.2.1 o1 (fun c j q => by unfold wF at q; omega)) o2 (fun c j q => by unfold wPa at q; omega)
          refine left m2 0 _ offM_rf (fun j hj => by rw [o2.1 _ _ (by unfold wPa; omega)]; exact eA j hj) A2 hk2 (by decide) (fun m3 o3 h3 A3 L3 => ?_)
          have loop : ∀ (k t b0 : Nat) (m4 : mm_M), t + k = 2 ^ (feudP a.2.2.1.1).length → 1 ≤ t → offM wE m2 m4 → (∀ j, j < 43 → m4.1 199 j = m.1 199 j) → asd (m.1 199) m4 → mK a.2.2.1.2.1 m4 → b0 < t → (b0 ≠ 0 → goodS a.2.1.2.1 a.2.2.1.1 n b0) → (∀ s, 1 ≤ s → s < t → goodS a.2.1.2.1 a.2.2.1.1 n s → pop s < pop b0 ∨ (pop s = pop b0 ∧ b0 ≤ s)) → jX12_spared_50 899 (nI n) x2 m4 (mQ a (if x2 = -1 then nI (pop b) else if 0 ≤ x2.toInt then nthB (feudP a.2.2.1.1) b x2.toInt.toNat else -1) m) (nI n) x2 (nI (feudP a.2.2.1.1).length) (nI (leftA a.2.1.2.1 a.2.2.1.1 n 0)) (nI b0) (nI t) := by
            intro k
            induction k with
            | zero =>
              intro t b0 m4 ht ht1 o4 h4 A4 L4 hb0 hg hbest
              obtain ⟨w1, w2, w3, w4, w5, w6, w7⟩ := st m4 o4 h4
              obtain rfl : b0 = b := bestP_uniq c10 ⟨by omega, hg, fun s s1 s2 s3 => hbest s s1 (by omega) s3⟩ hB
              refine lX12_spared_50 w1 ?_
              rw [sh21 _ (by omega)]
              refine ipos (nI_le (by omega) (by omega)) (m_takesBack w1 A4 (fun m5 o5 h5 g57 g59 => ?_))
              have o : offM (fun c j => wSM c j ∨ wTb c j) m m5 := offM_tr (offM_mono w7 (fun c j q => Or.inl q)) (offM_mono o5 (fun c j q => Or.inr q))
              have hMM : MM a m5 := MM_back hmm o (fun c j q z => by unfold wSM wTk wE wA wTb at q; unfold k2 k4 k8 at z; omega) h5 (mK_off L4 o5 (fun c j q => by unfold wTb at q; omega)) g57 g59
              have fin : ∀ z, mQ a z m z m5 := fun z => ⟨rfl, offA_of o (fun c j q => by unfold wSM wTk wE wA wTb at q; unfold ml; omega), hMM⟩
              have hG5 : mm_G m5.2.2 := by rw [o5.2.2]; exact w1
              refine ite_go (fun e => ?_) (fun e => ?_)
              · rw [if_pos e]; exact m_bits hG5 hb1024 (fin _)
              · rw [if_neg e]
                have hx0 : 0 ≤ x2.toInt := by
                  have : ¬ x2.toInt = -1 := fun q => e (i32_eq.mpr q)
                  omega
                obtain ⟨y, y1, rfl⟩ := nI_of (x := x2) (fun q => by have := lt0.mp q; omega)
                rw [if_pos hx0, nI_toInt y1]
                exact m_nth hG5 (mFr_off w4 o5 (fun c j q => by unfold wTb at q; omega)) c10 hv' hb1024 y1 (fin _) (feudP a.2.2.1.1).length 0 0 (by omega) (Nat.zero_le _) (Nat.le_refl _) rfl
            | succ k ih =>
              intro t b0 m4 ht ht1 o4 h4 A4 L4 hb0 hg hbest
              obtain ⟨w1, w2, w3, w4, w5, w6, w7⟩ := st m4 o4 h4
              have p1 := (pop_lt2 10 (by decide) t (by omega) (by omega)).1
              have p2 := (pop_lt2 10 (by decide) b0 (by omega) (by omega)).1
              refine lX12_spared_50 w1 ?_
              rw [sh21 _ (by omega), nI_1]
              refine ineg (nI_ge (by omega) (by omega)) (m_bits w1 (by omega) (m_bits w1 (by omega) ?_))
              by_cases cp : pop t ≤ pop b0
              · refine ipos (nI_le cp (by omega)) (ih (t + 1) b0 m4 (by omega) (by omega) o4 h4 A4 L4 (by omega) hg (fun s s1 s2 s3 => ?_))
                by_cases e : s = t
                · subst e; omega
                · exact hbest s s1 (by omega) s3
              · refine ineg (nI_ge (by omega) (by omega)) (left m4 t _ o4 h4 A4 L4 (by omega) (fun m5 o5 h5 A5 L5 => ?_))
                have hsi := sub_i _ (hlv 0) _ (hlv t)
                rw [← goodS_sub] at hsi
                refine ite_go (fun cg => ih (t + 1) t m5 (by omega) (by omega) o5 h5 A5 L5 (by omega) (fun _ => hsi.mp cg) (fun s s1 s2 s3 => ?_)) (fun cg => ih (t + 1) b0 m5 (by omega) (by omega) o5 h5 A5 L5 (by omega) hg (fun s s1 s2 s3 => ?_))
                · by_cases e : s = t
                  · subst e; exact Or.inr ⟨rfl, Nat.le_refl _⟩
                  · have := hbest s s1 (by omega) s3
                    exact Or.inl (by omega)
                · by_cases e : s = t
                  · subst e; exact absurd (hsi.mpr s3) cg
                  · exact hbest s s1 (by omega) s3
          exact loop (2 ^ (feudP a.2.2.1.1).length - 1) 1 0 m3 (by have := Nat.two_pow_pos (feudP a.2.2.1.1).length; omega) (Nat.le_refl _) o3 h3 A3 L3 (by decide) (fun q => absurd rfl q) (fun s s1 s2 => by omega)
        · have cx' : ¬ -1 ≤ x2.toInt := fun q => cx (i32_le.mpr q)
          have e1 : ¬ x2 = -1 := fun q => cx' (by rw [q]; decide)
          rw [if_neg e1, if_neg (by omega)]
    · refine ⟨-1, a, VV_up hv, ?_, fun m hGm hmm => ?_⟩
      · refine rX11_spared hG (c_hasDuchy hG hc.2.1 (fun _ => ineg (by decide) (c_canLook hG hc.2.2.1.1 hd (fun n' en' _ _ _ => ineg (by decide) ?_) (fun z => absurd cn'.2 z))) (fun q => absurd hdu q))
        exact c_countFeuds st37 hG hc.2.2.1.1 vn (ineg (nI_ge (a := 10) (by omega) (by omega)) (cQ_same hc))
      · obtain ⟨d1, d2, d3, d4, d5⟩ := id hmm
        refine rX12_spared hGm (m_isAhead (lo := 1) (hi := 20) hGm d2 d3.1 hd (by decide) (by decide) (fun n' _ en' _ hn' _ => ineg (by decide) ?_) (fun z => absurd cn' z))
        refine ite_go (fun cx => m_laysFeuds hGm d2.2.1 d3.1 vu vn (fun m1 o1 f1 => ineg (nI_ge (a := 10) (by omega) (by omega)) ⟨rfl, offA_of o1 (fun c j q => by unfold wF at q; unfold ml; omega), MM_sc hmm o1 (fun c j q z => by unfold wF at q; unfold k2 k4 k6 k8 k10 at z; omega)⟩)) (fun cx => mQ_same hmm)
  · refine ⟨-1, a, VV_up hv, ?_, fun m hGm hmm => ?_⟩
    · exact rX11_spared hG (c_hasDuchy hG hc.2.1 (fun hdu => ineg (by decide) (c_canLook hG hc.2.2.1.1 hd (fun n' en' h2 h3 h4 => absurd ⟨hdu, by rw [en', nI_toInt (by omega)]; omega, by rw [en', nI_toInt (by omega)]; omega, by rw [en', nI_toInt (by omega)]; exact h4⟩ cn) (fun _ => ipos rfl (cQ_same hc)))) (fun _ => ipos rfl (cQ_same hc)))
    · exact rX12_spared hGm (m_isAhead (lo := 1) (hi := 20) hGm hmm.2.1 hmm.2.2.1.1 hd (by decide) (by decide) (fun n' h1 en' h2 h3 h4 => absurd ⟨h1, by rw [en', nI_toInt (by omega)]; omega, by rw [en', nI_toInt (by omega)]; omega, by rw [en', nI_toInt (by omega)]; exact h4⟩ cn) (fun _ => ipos rfl (mQ_same hmm)))
