/-! ===== starves, table, wanting ===== -/
def stP (U : dU) (N : dN) (h d : Nat) : Bool := !((daysC U 0 (d + 1) N).2.1.testBit h)
def stA (U : dU) (N : dN) (h : Nat) : Option Nat := (List.range' 0 (min 60 (999 - N.1.toInt).toNat)).find? (stP U N h)
theorem find_t {p : Nat → Bool} {i k : Nat} (h : p i = true) : (List.range' i (k + 1)).find? p = some i := by
  rw [List.range'_succ, List.find?_cons_of_pos h]
theorem find_f {p : Nat → Bool} {i k : Nat} (h : p i = false) : (List.range' i (k + 1)).find? p = (List.range' (i + 1) k).find? p := by
  rw [List.range'_succ, List.find?_cons_of_neg (by rw [h]; decide)]
theorem s13 : lw_S13 Inv := by
  intro u M x1 hu hG hI
  refine stepI hI (fun a hv hc hm => ?_)
  have vu := hv.2.1.1
  have vn := hv.2.2.1.1.1
  have hd := hv.2.2.1.1.2.1
  have hth := vN_lt vu vn
  by_cases ch : isH a.2.1.2.1.2.1 x1
  · have hdu := has_d hv ch
    have hU := hc.2.1.2.2.2.2.2.2.2.2.2.2 hdu
    obtain ⟨h, hh, h7, rfl⟩ := isH_nI ch vu.2.1
    by_cases ct : a.2.2.1.1.2.1.testBit h = true
    · generalize hmost : min 60 (999 - a.2.2.1.1.1.toInt).toNat = most
      have hsA : stA a.2.1.2.1 a.2.2.1.1 h = (List.range' 0 most).find? (stP a.2.1.2.1 a.2.2.1.1 h) := by unfold stA; rw [hmost]
      have hm60 : most ≤ 60 := by omega
      have hday : a.2.2.1.1.1.toInt + most ≤ 999 := by unfold inI at hd; omega
      refine ⟨pickR (stA a.2.1.2.1 a.2.2.1.1 h), a, VV_up hv, ?_, fun m hGm hmm => ?_⟩
      · refine rX11_starves hG (c_isHouse hG hc.2.1 vu.2.1 (fun _ => ineg (by decide) (c_isThere st37 hG hc.2.2.1.1.2.1 hth h7 ?_)) (fun q => absurd ch q))
        rw [if_pos ct]
        refine ineg (by decide) (c_copyFrom st42 st37 (by decide) hG hc.2.2.1.1 (fun m1 o1 n1 _ => ?_))
        have e37 : m1.1 37 0 = a.2.2.1.1.1 := by rw [o1.1 _ _ (by unfold wCp; omega)]; exact hc.2.2.1.1.1
        have em : (if 999 - (m1.1 37 0) < 60 then 999 - (m1.1 37 0) else 60) = nI most := by
          rw [e37]
          have e999 : (999 : Int32).toInt = 999 := rfl
          have e60 : (60 : Int32).toInt = 60 := rfl
          have es : ((999 : Int32) - a.2.2.1.1.1).toInt = 999 - a.2.2.1.1.1.toInt := by
            unfold inI at hd
            rw [Int32.toInt_sub, e999, bm32 (by omega) (by omega)]
          unfold inI at hd
          by_cases c : (999 : Int32) - a.2.2.1.1.1 < 60
          · rw [if_pos c]
            have c' := i32_lt.mp c
            rw [i32_eq, es, nI_toInt (by omega)]
            omega
          · rw [if_neg c]
            have c' := mt i32_lt.mpr c
            rw [i32_eq, nI_toInt (by omega)]
            omega
        rw [em]
        have loop : ∀ (k i : Nat) (m : mm_M), i + k = most → offM (wS 42) M m → cN 42 (daysC a.2.1.2.1 0 i a.2.2.1.1) m → (List.range' i k).find? (stP a.2.1.2.1 a.2.2.1.1 h) = stA a.2.1.2.1 a.2.2.1.1 h → jX11_starves_51 899 (nI h) m (cQ u a (pickR (stA a.2.1.2.1 a.2.2.1.1 h)) M) (nI h) (nI most) (nI i) := by
          intro k
          induction k with
          | zero =>
            intro i m hi ho hNi hf
            have hf : none = stA a.2.1.2.1 a.2.2.1.1 h := hf
            rw [← hf]
            exact lX11_starves_51 (by rw [ho.2.2]; exact hG) (ipos (nI_le (by omega) (by omega)) ⟨rfl, offA_of ho (fun c j q => by unfold wS at q; unfold cl; omega), CC_sc hc ho (fun c j q => by unfold wS at q; omega)⟩)
          | succ k ih =>
            intro i m hi ho hNi hf
            have hGm : mm_G m.2.2 := by rw [ho.2.2]; exact hG
            refine lX11_starves_51 hGm (ineg (nI_ge (by omega) (by omega)) ?_)
            refine c_run (rest := 0) (t := false) st42 hGm (cU_off hU ho (fun c j q => by unfold wS at q; omega)) hNi vu (daysC_v vu vn i) (by decide) (fun m2 R => ?_)
            have ho2 := offM_tr ho R.1
            have hN2 : cN 42 (daysC a.2.1.2.1 0 (i + 1) a.2.2.1.1) m2 := R.2.1
            refine c_isThere st42 (by rw [ho2.2.2]; exact hG) hN2.2.1 (vN_lt vu (daysC_v vu vn (i + 1))) h7 ?_
            by_cases c : (daysC a.2.1.2.1 0 (i + 1) a.2.2.1.1).2.1.testBit h = true
            · rw [if_pos c]
              rw [find_f (by unfold stP; rw [c]; rfl)] at hf
              rw [nI_1]
              exact ineg (by decide) (ih (i + 1) m2 (by omega) ho2 hN2 hf)
            · rw [if_neg c]
              rw [find_t (by unfold stP; simpa using c)] at hf
              rw [← hf]
              exact ipos rfl ⟨rfl, offA_of ho2 (fun c j q => by unfold wS at q; unfold cl; omega), CC_sc hc ho2 (fun c j q => by unfold wS at q; omega)⟩
        exact loop most 0 m1 (by omega) (offM_mono o1 (fun c j q => by unfold wCp at q; unfold wS; omega)) n1 hsA.symm
      · obtain ⟨d1, d2, d3, d4, d5⟩ := id hmm
        refine rX12_starves hGm (m_isHouseI hGm d2.2.1 vu.2.1 (fun _ => ineg (by decide) (m_isThere hGm d3.1 h7 ?_)) (fun q => absurd ch q))
        rw [if_pos ct]
        refine ineg (by decide) (m_putsAside hGm (fun m1 o1 h57 hA => ?_))
        have t0 : (0 : Int32).toNatClampNeg = 0 := rfl
        have e999 : (999 : Int32).toInt = 999 := rfl
        have back : ∀ m2 z, offM wTk m m2 → mK a.2.2.1.2.1 m2 → asd (m.1 199) m2 → mm_CV mX12_takesBack 899 [.ref 164] m2 (fun m76 => mQ a z m z m76) := fun m2 z o K1 A1 => m_back (by rw [o.2.2]; exact hGm) hmm o A1 K1 (fun m' o' h' => ⟨rfl, o', h'⟩)
        have stay : ∀ m2 i, offM wTk m m2 → mK a.2.2.1.2.1 m2 → asd (m.1 199) m2 → mN (daysC a.2.1.2.1 0 i a.2.2.1.1) m2 → (daysC a.2.1.2.1 0 i a.2.2.1.1).2.1.testBit h = true → stA a.2.1.2.1 a.2.2.1.1 h = none → jX12_starves_61 899 (nI h) m2 (mQ a (pickR (stA a.2.1.2.1 a.2.2.1.1 h)) m) (nI h) (nI i) := by
          intro m2 i o K1 A1 N1 c hs
          refine lX12_starves_61 (by rw [o.2.2]; exact hGm) (m_isThere (by rw [o.2.2]; exact hGm) N1 h7 ?_)
          rw [if_pos c, hs]
          exact ineg (by decide) (back m2 _ o K1 A1)
        have gone : ∀ m2 i, offM wTk m m2 → mK a.2.2.1.2.1 m2 → asd (m.1 199) m2 → mN (daysC a.2.1.2.1 0 (i + 1) a.2.2.1.1) m2 → ¬ (daysC a.2.1.2.1 0 (i + 1) a.2.2.1.1).2.1.testBit h = true → stA a.2.1.2.1 a.2.2.1.1 h = some i → jX12_starves_61 899 (nI h) m2 (mQ a (pickR (stA a.2.1.2.1 a.2.2.1.1 h)) m) (nI h) (nI (i + 1)) := by
          intro m2 i o K1 A1 N1 c hs
          refine lX12_starves_61 (by rw [o.2.2]; exact hGm) (m_isThere (by rw [o.2.2]; exact hGm) N1 h7 ?_)
          rw [if_neg c, hs, nI_pred]
          exact ipos rfl (back m2 _ o K1 A1)
        have loop : ∀ (k i : Nat) (m2 : mm_M), i + k = most → offM wTk m m2 → m2.1 164 57 = 1 → m2.1 164 59 = nI 0 → mK a.2.2.1.2.1 m2 → asd (m.1 199) m2 → mN (daysC a.2.1.2.1 0 i a.2.2.1.1) m2 → (daysC a.2.1.2.1 0 i a.2.2.1.1).2.1.testBit h = true → (List.range' i k).find? (stP a.2.1.2.1 a.2.2.1.1 h) = stA a.2.1.2.1 a.2.2.1.1 h → jX12_starves_25 899 (nI h) m2 (mQ a (pickR (stA a.2.1.2.1 a.2.2.1.1 h)) m) (nI h) (nI i) := by
          intro k
          induction k with
          | zero =>
            intro i m2 hi o h57 h59 K1 A1 N1 c hf
            have hf : none = stA a.2.1.2.1 a.2.2.1.1 h := hf
            have hGm2 : mm_G m2.2.2 := by rw [o.2.2]; exact hGm
            refine lX12_starves_25 hGm2 (m_isThere hGm2 N1 h7 ?_)
            rw [if_pos c]
            refine ineg (by decide) (ite_go (fun _ => stay m2 i o K1 A1 N1 c hf.symm) (fun c60 => ipos ?_ (stay m2 i o K1 A1 N1 c hf.symm)))
            have hi60 : i < 60 := by
              apply Decidable.byContradiction
              intro q
              exact c60 (nI_le (a := 60) (by omega) (by omega))
            rw [t0, N1.1]
            refine i32_le.mpr ?_
            rw [daysC_day hd i (by omega), e999]
            unfold inI at hd
            omega
          | succ k ih =>
            intro i m2 hi o h57 h59 K1 A1 N1 c hf
            have hGm2 : mm_G m2.2.2 := by rw [o.2.2]; exact hGm
            refine lX12_starves_25 hGm2 (m_isThere hGm2 N1 h7 ?_)
            rw [if_pos c, t0, N1.1]
            have hdi := daysC_day (U := a.2.1.2.1) (rest := 0) hd i (by omega)
            refine ineg (by decide) (ineg (nI_ge (b := 60) (by omega) (by decide)) (ineg (fun q => by have := i32_le.mp q; rw [hdi, e999] at this; omega) ?_))
            refine m_dayGoes (rest := 0) (th := true) (L := a.2.2.1.2.1) hGm2 (mU_off d2.2.1 o (fun c j q => by unfold wTk wE wA at q; omega)) N1 vu (daysC_v vu vn i) (by decide) h59 (by rw [h57]; rfl) K1 (fun m3 R3 => ?_)
            obtain ⟨o3, n3, -, -, -, k3⟩ := R3
            rw [← dayC_M (by omega)] at n3
            have n3 : mN (daysC a.2.1.2.1 0 (i + 1) a.2.2.1.1) m3 := n3
            have k3 : mK a.2.2.1.2.1 m3 := k3
            have o' : offM wTk m m3 := offM_tr o (offM_mono o3 (fun c j q => Or.inl q))
            have A3 : asd (m.1 199) m3 := asd_off A1 o3 (fun c j q => by unfold wE wA at q; omega)
            rw [nI_1]
            by_cases c2 : (daysC a.2.1.2.1 0 (i + 1) a.2.2.1.1).2.1.testBit h = true
            · rw [find_f (by unfold stP; rw [c2]; rfl)] at hf
              exact ih (i + 1) m3 (by omega) o' (by rw [o3.1 _ _ (by unfold wE wA; omega)]; exact h57) (by rw [o3.1 _ _ (by unfold wE wA; omega)]; exact h59) k3 A3 n3 c2 hf
            · rw [find_t (by unfold stP; simpa using c2)] at hf
              have hGm3 : mm_G m3.2.2 := by rw [o'.2.2]; exact hGm
              refine lX12_starves_25 hGm3 (m_isThere hGm3 n3 h7 ?_)
              rw [if_neg c2]
              exact ipos rfl (gone m3 i o' k3 A3 n3 c2 hf.symm)
        exact loop most 0 m1 (by omega) (offM_mono o1 (fun c j q => by unfold wPa at q; unfold wTk; omega)) h57 (by rw [o1.1 _ _ (by unfold wPa; omega)]; exact d5.2.1) (mK_off d3.2.1 o1 (fun c j q => by unfold wPa at q; omega)) hA (mN_off d3.1 o1 (fun c j q => by unfold wPa at q; omega)) ct hsA.symm
    · refine ⟨-1, a, VV_up hv, ?_, fun m hGm hmm => ?_⟩
      · refine rX11_starves hG (c_isHouse hG hc.2.1 vu.2.1 (fun _ => ineg (by decide) (c_isThere st37 hG hc.2.2.1.1.2.1 hth h7 ?_)) (fun q => absurd ch q))
        rw [if_neg ct]
        exact ipos rfl (cQ_same hc)
      · refine rX12_starves hGm (m_isHouseI hGm hmm.2.1.2.1 vu.2.1 (fun _ => ineg (by decide) (m_isThere hGm hmm.2.2.1.1 h7 ?_)) (fun q => absurd ch q))
        rw [if_neg ct]
        exact ipos rfl (mQ_same hmm)
  · refine ⟨-1, a, VV_up hv, ?_, fun m hGm hmm => ?_⟩
    · exact rX11_starves hG (c_isHouse hG hc.2.1 vu.2.1 (fun q => absurd q ch) (fun _ => ipos rfl (cQ_same hc)))
    · exact rX12_starves hGm (m_isHouseI hGm hmm.2.1.2.1 vu.2.1 (fun q => absurd q ch) (fun _ => ipos rfl (mQ_same hmm)))
/-! what the class has at hand changes -/
theorem CC_cc {W : Nat → Nat → Prop} {u : Nat} {a : dA} {M m : mm_M} (h : CC u a M) (ho : offM W M m) (hW : ∀ c j, W c j → c = 31 ∨ c = 32 ∨ c = 33 ∨ c = 34 ∨ c = 35 ∨ c = 36 ∨ (c = 21 ∧ j = 4) ∨ (42 ≤ c ∧ c ≤ 46) ∨ (149 ≤ c ∧ c ≤ 163 ∧ c ≠ 160 ∧ ¬ (c = 159 ∧ j = 0))) (hC : cC a.2.2.2.2 a.2.1.2.1 a.2.2.1.1 a.2.2.2.1 m) : CC (u + 1) a m := by
  obtain ⟨h1, h2, h3, h4, h5, h6⟩ := CC_up h
  have hr := Rl_at h2.2.2.2.1
  have ho' := offA_M ho
  refine ⟨cIO_off h1 ho' (fun c j q z => ?_), cRU_off h2 ho' (fun c j q z => ?_), cST_off h3 ho' (fun c j q z => ?_), cSE_off h4 ho' (fun c j q z => ?_), ?_, hC⟩
  · have := hW c j q; omega
  · have := hW c j q; omega
  · have := hW c j q; omega
  · have := hW c j q; omega
  · rw [ho.1 _ _ (fun q => by have := hW _ _ q; omega)]; exact h5
theorem nofut_self (V : Nat) (hV : V < 2 ^ 30) : nofut V (nI V) := fun k k1 k2 q => by
  have := (nI_eq (by omega) k2).mp q
  omega
theorem cC_seat {V : Nat} {U : dU} {N : dN} {S : dSE} {M m : mm_M} (h : cC V U N S M) (hV : V < 2 ^ 30) (ho : offM wSe M m) (h5 : m.1 149 5 = nI V) (ht : tabR U N m) : cC V U N S m := by
  obtain ⟨⟨a1, a2, a3, a4, a5⟩, b1, b2, b3, b4, b5⟩ := h
  have g : ∀ c j, ¬ wSe c j → m.1 c j = M.1 c j := fun c j q => ho.1 c j q
  have g6 : m.1 149 6 = M.1 149 6 := g _ _ (by unfold wSe; omega)
  have g3 : m.1 149 3 = M.1 149 3 := g _ _ (by unfold wSe; omega)
  have g156 : ∀ j, m.1 156 j = M.1 156 j := fun j => g _ _ (by unfold wSe; omega)
  have g159 : ∀ j, m.1 159 j = M.1 159 j := fun j => g _ _ (by unfold wSe; omega)
  refine ⟨⟨by rw [h5]; exact nofut_self V hV, by rw [g6]; exact a2, by rw [g156]; exact a3, by rw [g159]; exact a4, by rw [g159]; exact a5⟩, fun _ => ht, fun q => ?_, fun n n1 n2 q1 q2 => ?_, fun h hh q1 q2 => ?_, fun h hh q1 q2 => ?_⟩
  · rw [g6] at q
    exact wantR_of (b2 q) g3 (fun k => g 151 k (by unfold wSe; omega))
  · rw [g156] at q1 q2
    obtain ⟨t0, b, t1, t2, t3, t4⟩ := b3 n n1 n2 q1 q2
    exact ⟨t0, b, t1, by rw [g156]; exact t2, by rw [g156]; exact t3, fun k p hp => by rw [g 157 k (by unfold wSe; omega)]; exact t4 k p hp⟩
  · rw [g159] at q1 q2
    obtain ⟨t1, t2, t3, t4⟩ := b4 h hh q1 q2
    exact ⟨by rw [g159]; exact t1, by rw [g159]; exact t2, by rw [g159]; exact t3, fun v hv => by rw [g 161 v (by unfold wSe; omega)]; exact t4 v hv⟩
  · rw [g159] at q1 q2
    obtain ⟨t1, t2, t3⟩ := b5 h hh q1 q2
    exact ⟨by rw [g159]; exact t1, by rw [g159]; exact t2, by rw [g159]; exact t3⟩
theorem cC_want {V : Nat} {U : dU} {N : dN} {S : dSE} {M m : mm_M} (h : cC V U N S M) (hV : V < 2 ^ 30) (ho : offM wSw M m) (h6 : m.1 149 6 = nI V) (ht : wantR U N m) : cC V U N S m := by
  obtain ⟨⟨a1, a2, a3, a4, a5⟩, b1, b2, b3, b4, b5⟩ := h
  have g : ∀ c j, ¬ wSw c j → m.1 c j = M.1 c j := fun c j q => ho.1 c j q
  have g5 : m.1 149 5 = M.1 149 5 := g _ _ (by unfold wSw; omega)
  have g156 : ∀ j, m.1 156 j = M.1 156 j := fun j => g _ _ (by unfold wSw; omega)
  have g159 : ∀ j, m.1 159 j = M.1 159 j := fun j => g _ _ (by unfold wSw; omega)
  refine ⟨⟨by rw [g5]; exact a1, by rw [h6]; exact nofut_self V hV, by rw [g156]; exact a3, by rw [g159]; exact a4, by rw [g159]; exact a5⟩, fun q => ?_, fun _ => ht, fun n n1 n2 q1 q2 => ?_, fun h hh q1 q2 => ?_, fun h hh q1 q2 => ?_⟩
  · rw [g5] at q
    obtain ⟨t1, t2, t3⟩ := b1 q
    exact ⟨by rw [g _ _ (by unfold wSw; omega)]; exact t1, by rw [g _ _ (by unfold wSw; omega)]; exact t2, fun e he => by rw [g 150 e (by unfold wSw; omega)]; exact t3 e he⟩
  · rw [g156] at q1 q2
    obtain ⟨t0, b, t1, t2, t3, t4⟩ := b3 n n1 n2 q1 q2
    exact ⟨t0, b, t1, by rw [g156]; exact t2, by rw [g156]; exact t3, fun k p hp => by rw [g 157 k (by unfold wSw; omega)]; exact t4 k p hp⟩
  · rw [g159] at q1 q2
    obtain ⟨t1, t2, t3, t4⟩ := b4 h hh q1 q2
    exact ⟨by rw [g159]; exact t1, by rw [g159]; exact t2, by rw [g159]; exact t3, fun v hv => by rw [g 161 v (by unfold wSw; omega)]; exact t4 v hv⟩
  · rw [g159] at q1 q2
    obtain ⟨t1, t2, t3⟩ := b5 h hh q1 q2
    exact ⟨by rw [g159]; exact t1, by rw [g159]; exact t2, by rw [g159]; exact t3⟩
theorem s14 : lw_S14 Inv := by
  intro u M x1 hu hG hI
  refine stepI hI (fun a hv hc hm => ?_)
  have vu := hv.2.1.1
  have vn := hv.2.2.1.1.1
  have hu7 := vu.2.1
  have hV : a.2.2.2.2 < 2 ^ 30 := by have := hv.2.2.2.2; omega
  have e0 : (0 : Int64).toInt = 0 := rfl
  have e2h : (2 : Int32) + nI a.2.1.2.1.2.1 = nI (2 + a.2.1.2.1.2.1) := nI_add 2 _
  have e1h : (1 : Int32) + nI a.2.1.2.1.2.1 = nI (1 + a.2.1.2.1.2.1) := nI_add 1 _
  by_cases ck : a.2.1.1 = true ∧ 0 ≤ x1.toInt ∧ x1.toInt < 2 + a.2.1.2.1.2.1
  · obtain ⟨hdu, c1, c2⟩ := ck
    have hU := hc.2.1.2.2.2.2.2.2.2.2.2.2 hdu
    obtain ⟨w, hw, rfl⟩ : ∃ w, w < 2 + a.2.1.2.1.2.1 ∧ x1 = nI w := ⟨x1.toInt.toNat, by omega, i32_nI c1⟩
    refine ⟨if w = 0 then nI (tb (svN a.2.1.2.1 a.2.2.1.1) (hcN a.2.2.1.1) 7 0).1 else if w = 1 then nI (tb (svN a.2.1.2.1 a.2.2.1.1) (hcN a.2.2.1.1) 7 0).2 else pickR (rowA (svN a.2.1.2.1 a.2.2.1.1) (hcN a.2.2.1.1) (w - 2)), a, VV_up hv, ?_, fun m hGm hmm => ?_⟩
    · refine rX11_table hG (c_hasDuchy hG hc.2.1 (fun _ => ineg (by decide) (ineg (nI_pos (by omega)) ⟨_, hc.2.1.1, hc.2.1.2.2.2.1, ?_⟩)) (fun q => absurd hdu q))
      rw [hc.2.1.2.2.2.2.2.2.1, e2h]
      refine ipos (nI_lt hw (by omega)) ⟨_, hc.2.1.1, hc.2.1.2.2.2.1, ?_⟩
      rw [hc.2.2.2.2.1]
      refine c_seat (U := a.2.1.2.1) hc.2.1.2.2.2.1 st37 hG hc.2.2.1.1 hc.2.1.2.2.2.2.2.1 vn (fun q => hc.2.2.2.2.2.2.1 q) (fun m1 o1 g5 t1 => ?_)
      have fin : ∀ z, cQ u a z M z m1 := fun z => ⟨rfl, offA_of o1 (fun c j q => by unfold wSe at q; unfold cl; omega), CC_cc hc o1 (fun c j q => by unfold wSe at q; omega) (cC_seat hc.2.2.2.2.2 hV o1 g5 t1)⟩
      obtain ⟨t1a, t1b, t1c⟩ := t1
      have z0 : (nI w = 0) ↔ w = 0 := nI_eq (b := 0) (by omega) (by decide)
      have z1 : (nI w = 1) ↔ w = 1 := nI_eq (b := 1) (by omega) (by decide)
      refine ite_go (fun e => ?_) (fun n0 => ?_)
      · rw [if_pos (z0.mp e), t1a]; exact fin _
      rw [if_neg (mt z0.mpr n0)]
      refine ite_go (fun e => ?_) (fun n1 => ?_)
      · rw [if_pos (z1.mp e), t1b]; exact fin _
      have w0 := mt z0.mpr n0
      have w1 := mt z1.mpr n1
      rw [if_neg w1]
      have es : nI w - 2 = nI (w - 2) := pk_sub (b := 2) (by omega)
      rw [es, nI_clamp (by omega), t1c (w - 2) (by omega)]
      exact ⟨vp_in_nI (by omega) (by decide), fin _⟩
    · obtain ⟨d1, d2, d3, d4, d5⟩ := id hmm
      have h9 := hcN_9 vn
      refine rX12_table hGm ?_
      rw [d2.1, if_pos hdu]
      refine ineg (by decide) (m_houseMany hGm ?_)
      rw [d2.2.1.2.1, e1h]
      refine m_isIn hGm (fun _ => ineg (by decide) ?_) (fun q => by rw [i64_of, i64_of, nI_toInt (by omega), nI_toInt (by omega), e0] at q; omega)
      have o1 : offM (fun c j => c = 164 ∧ j = 66) m (mm_uI m 164 66 0) := offM_uI ⟨rfl, rfl⟩
      have g66 : (mm_uI m 164 66 0).1 164 66 = nI 0 := uI_at _ _ _ _
      generalize mm_uI m 164 66 0 = m1 at o1 g66 ⊢
      have hU1 := mU_off d2.2.1 o1 (fun c j q => by omega)
      have hN1 := mN_off d3.1 o1 (fun c j q => by omega)
      refine m_laysTable (x := 0) (by rw [o1.2.2]; exact hGm) hU1 hN1 vu vn (by decide) g66 (fun m2 o2 T2 => ?_)
      have hG2 : mm_G m2.2.2 := by rw [o2.2.2, o1.2.2]; exact hGm
      have g66' : m2.1 164 66 = nI 0 := by rw [o2.1 _ _ (by unfold wL; omega)]; exact g66
      have t0 : (0 : Int32).toNatClampNeg = 0 := rfl
      have T0 := T2 0 0 (Nat.le_refl _) (by omega) (by omega)
      rw [show 128 * 0 + 0 = 0 by omega, show 7 - 0 = 7 by omega, svX_0 vn] at T0
      have fin : ∀ m3 z, offM (fun c _ => c = 207) m2 m3 → mQ a z m z m3 := fun m3 z o3 => by
        have o : offM (fun c j => (c = 164 ∧ j = 66) ∨ c = 205 ∨ c = 206 ∨ c = 207) m m3 := offM_tr (offM_tr (offM_mono o1 (fun c j q => Or.inl q)) (offM_mono o2 (fun c j q => by unfold wL at q; omega))) (offM_mono o3 (fun c j q => by omega))
        obtain ⟨f1, f2, f3, f4, f5⟩ := hmm
        have o' := offA_M o
        refine ⟨rfl, offA_of o (fun c j q => by unfold ml; omega), mIO_off f1 o' (fun c j q => by omega), mRU_off f2 o' (fun c j q => by omega), mST_off f3 o' (fun c j q => by omega), mSE_off f4 o' (fun c j q => by omega), ?_, ?_, ?_⟩
        · rw [o.1 _ _ (by omega)]; exact f5.1
        · rw [o.1 _ _ (by omega)]; exact f5.2.1
        · rw [o3.1 _ _ (by omega)]; exact g66'
      rw [t0]
      by_cases w2 : 2 ≤ w
      · refine ipos (nI_le (a := 2) w2 (by omega)) ?_
        refine m_laysRow hG2 (mU_off hU1 o2 (fun c j q => by unfold wL at q; omega)) (mN_off hN1 o2 (fun c j q => by unfold wL at q; omega)) vu vn g66' T2 (fun m3 o3 R3 => ?_)
        have es : nI w - 2 = nI (w - 2) := pk_sub (b := 2) (by omega)
        rw [es, nI_clamp (by omega), R3 (w - 2) (by omega), svX_0 vn, if_neg (by omega), if_neg (by omega)]
        exact ⟨vp_in_nI (by omega) (by decide), fin m3 _ o3⟩
      · refine ineg (nI_ge (b := 2) (by omega) (by decide)) ?_
        have z0 : (nI w = 0) ↔ w = 0 := nI_eq (b := 0) (by omega) (by decide)
        refine ite_go (fun e => ?_) (fun n0 => ?_)
        · rw [if_pos (z0.mp e), T0.1]; exact fin m2 _ offM_rf
        · have w0 := mt z0.mpr n0
          rw [if_neg w0, if_pos (by omega), T0.2]; exact fin m2 _ offM_rf
  · refine ⟨-1, a, VV_up hv, ?_, fun m hGm hmm => ?_⟩
    · refine rX11_table hG (c_hasDuchy hG hc.2.1 (fun hdu => ineg (by decide) (ite_go (fun _ => cQ_same hc) (fun c1 => ⟨_, hc.2.1.1, hc.2.1.2.2.2.1, ?_⟩))) (fun q => ipos rfl (cQ_same hc)))
      rw [hc.2.1.2.2.2.2.2.2.1, e2h]
      refine ineg (fun c2 => ck ⟨hdu, ?_⟩) (cQ_same hc)
      have := mt lt0.mpr c1
      have := i32_lt.mp c2
      rw [nI_toInt (by omega)] at this
      omega
    · refine rX12_table hGm ?_
      rw [hmm.2.1.1]
      by_cases hdu : a.2.1.1 = true
      · rw [if_pos hdu]
        refine ineg (by decide) (m_houseMany hGm ?_)
        rw [hmm.2.1.2.1.2.1, e1h]
        refine m_isIn hGm (fun q => ?_) (fun _ => ipos rfl (mQ_same hmm))
        rw [i64_of, i64_of, nI_toInt (n := 1 + a.2.1.2.1.2.1) (by omega), e0] at q
        exact absurd ⟨hdu, by omega⟩ ck
      · rw [if_neg hdu]
        exact ipos rfl (mQ_same hmm)
theorem s15 : lw_S15 Inv := by
  intro u M x1 hu hG hI
  refine stepI hI (fun a hv hc hm => ?_)
  have vu := hv.2.1.1
  have vn := hv.2.2.1.1.1
  have hV : a.2.2.2.2 < 2 ^ 30 := by have := hv.2.2.2.2; omega
  have em1 : (-1 : Int64).toInt = -1 := rfl
  have e2 : (2 : Int64).toInt = 2 := rfl
  have m1 : (-1 : Int32).toInt = -1 := rfl
  by_cases hdu : a.2.1.1 = true
  · have key : ∃ z : Int32, (∀ m, wantR a.2.1.2.1 a.2.2.1.1 m → ∀ K : Int32 → mm_M → Prop, K z m → (if x1 = (-1) then (K (m.1 149 3) m) else (if x1 < 0 then (K (-1) m) else (if (m.1 149 3) ≤ x1 then (K (-1) m) else (vp_in x1 3 ∧ K (m.1 151 x1.toNatClampNeg) m))))) ∧ (¬ (-1 ≤ x1.toInt ∧ x1.toInt ≤ 2) → z = -1) ∧ (-1 ≤ x1.toInt ∧ x1.toInt ≤ 2 → ∀ m (w : Int32), wantM a.2.1.2.1 a.2.2.1.1 w m → ∀ K : Int32 → mm_M → Prop, K z (mm_uI m 164 66 0) → (if x1 = (-1) then (K w (mm_uI m 164 66 0)) else (if w = (-1) then (K w (mm_uI m 164 66 0)) else (if w ≤ x1 then (K (-1) (mm_uI m 164 66 0)) else (vp_in x1 3 ∧ vp_in ((mm_uI m 164 66 0).1 210 x1.toNatClampNeg) 21 ∧ vp_in x1 3 ∧ vp_in ((mm_uI m 164 66 0).1 210 x1.toNatClampNeg) 21 ∧ K ((8 * ((mm_uI m 164 66 0).1 208 ((mm_uI m 164 66 0).1 210 x1.toNatClampNeg).toNatClampNeg)) + ((mm_uI m 164 66 0).1 209 ((mm_uI m 164 66 0).1 210 x1.toNatClampNeg).toNatClampNeg)) (mm_uI m 164 66 0)))))) := by
      cases hw : wantA a.2.1.2.1 a.2.2.1.1 with
      | none =>
        refine ⟨-1, fun m hm K hK => ?_, fun _ => rfl, fun _ m w hwm K hK => ?_⟩
        · unfold wantR at hm
          rw [hw] at hm
          have hm : m.1 149 3 = -1 := hm
          rw [hm]
          refine ite_go (fun _ => hK) (fun _ => ite_go (fun _ => hK) (fun c => ipos (i32_le.mpr ?_) hK))
          have := mt lt0.mpr c
          omega
        · unfold wantM at hwm
          rw [hw] at hwm
          have hwm : w = -1 := hwm
          subst hwm
          exact ite_go (fun _ => hK) (fun _ => ipos rfl hK)
      | some r =>
        have hlen : r.length ≤ 3 := by
          unfold wantA at hw
          have : ∀ k n, wantF (allA a.2.1.2.1 a.2.2.1.1) (freeP a.2.2.1.1 0) k n = some r → r.length < n + k := by
            intro k
            induction k with
            | zero => intro n q; cases q
            | succ k ih =>
              intro n q
              have q : (match seekW (allA a.2.1.2.1 a.2.2.1.1) n (freeP a.2.2.1.1 0) 0 with | some r => some r | none => wantF (allA a.2.1.2.1 a.2.2.1.1) (freeP a.2.2.1.1 0) k (n + 1)) = some r := q
              cases hs : seekW (allA a.2.1.2.1 a.2.2.1.1) n (freeP a.2.2.1.1 0) 0 with
              | some r' =>
                rw [hs] at q
                cases q
                have := seekW_len _ _ _ _ hs
                omega
              | none =>
                rw [hs] at q
                have := ih (n + 1) q
                omega
          have := this 4 0 hw
          omega
        by_cases cm : x1 = -1
        · refine ⟨nI r.length, fun m hm K hK => ?_, fun q => absurd (by rw [cm]; decide) q, fun _ m w hwm K hK => ?_⟩
          · unfold wantR at hm
            rw [hw] at hm
            obtain ⟨q1, q2, q3⟩ := hm
            rw [q1]; exact ipos cm hK
          · unfold wantM at hwm
            rw [hw] at hwm
            obtain ⟨q1, q2, q3⟩ := hwm
            rw [q1]; exact ipos cm hK
        · rcases ix_of (x := x1) (n := r.length) (by omega) with ⟨k, hk, rfl⟩ | hno
          · have hp := List.getElem?_eq_getElem hk
            generalize r[k] = p at hp
            refine ⟨nI p, fun m hm K hK => ?_, fun q => absurd (by rw [nI_toInt (by omega)]; omega) q, fun _ m w hwm K hK => ?_⟩
            · unfold wantR at hm
              rw [hw] at hm
              obtain ⟨q1, q2, q3⟩ := hm
              refine ineg cm (ineg (nI_pos (by omega)) ?_)
              rw [q1, nI_clamp (by omega), q3 k p hp]
              exact ineg (nI_ge hk (by omega)) ⟨vp_in_nI (by omega) (by decide), hK⟩
            · unfold wantM at hwm
              rw [hw] at hwm
              obtain ⟨q1, q2, q3⟩ := hwm
              obtain ⟨v1, v2, b, b1, b2, b3, b4⟩ := q3 k p hp
              rw [q1]
              refine ineg cm (ineg (nI_nm1 (by omega)) (ineg (nI_ge hk (by omega)) ?_))
              rw [uI_c (c := 210) (by decide), uI_c (c := 208) (by decide), uI_c (c := 209) (by decide), nI_clamp (n := k) (by omega), b2, nI_clamp (n := b) (by omega), b3, b4, ix8 (p / 8) (by omega) (p % 8) (by omega), show 8 * (p / 8) + p % 8 = p by omega]
              exact ⟨vp_in_nI (by omega) (by decide), vp_in_nI b1 (by decide), vp_in_nI (by omega) (by decide), vp_in_nI b1 (by decide), hK⟩
          · refine ⟨-1, fun m hm K hK => ?_, fun _ => rfl, fun hx m w hwm K hK => ?_⟩
            · unfold wantR at hm
              rw [hw] at hm
              obtain ⟨q1, q2, q3⟩ := hm
              rw [q1]
              refine ineg cm (ite_go (fun _ => hK) (fun c => ipos (i32_le.mpr ?_) hK))
              have := mt lt0.mpr c
              rw [nI_toInt (by omega)]
              omega
            · unfold wantM at hwm
              rw [hw] at hwm
              obtain ⟨q1, q2, q3⟩ := hwm
              rw [q1]
              refine ineg cm (ineg (nI_nm1 (by omega)) (ipos (i32_le.mpr ?_) hK))
              rw [nI_toInt (by omega)]
              have : ¬ x1.toInt = -1 := fun q => cm (i32_eq.mpr q)
              omega
    obtain ⟨z, k1, k2', k3⟩ := key
    refine ⟨z, a, VV_up hv, ?_, fun m hGm hmm => ?_⟩
    · refine rX11_wanting hG (c_hasDuchy hG hc.2.1 (fun _ => ineg (by decide) ⟨_, hc.2.1.1, hc.2.1.2.2.2.1, ?_⟩) (fun q => absurd hdu q))
      rw [hc.2.2.2.2.1]
      refine c_seekWanted (U := a.2.1.2.1) hc.2.1.2.2.2.1 st37 hG hc.2.2.1.1 hc.2.1.2.2.2.2.2.1 vu vn (fun q => hc.2.2.2.2.2.2.2.1 q) (fun m1 o1 g6 t1 => ?_)
      exact k1 m1 t1 _ ⟨rfl, offA_of o1 (fun c j q => by unfold wSw at q; unfold cl; omega), CC_cc hc o1 (fun c j q => by unfold wSw at q; omega) (cC_want hc.2.2.2.2.2 hV o1 g6 t1)⟩
    · obtain ⟨d1, d2, d3, d4, d5⟩ := id hmm
      refine rX12_wanting hGm ?_
      rw [d2.1, if_pos hdu]
      refine ineg (by decide) (m_isIn hGm (fun q => ineg (by decide) ?_) (fun q => ipos rfl ?_))
      · rw [i64_of, em1, e2] at q
        refine m_wantingMany hGm d2.2.1 d3.1 vu vn (fun m2 w o2 hw2 => k3 q m2 w hw2 _ ?_)
        have o3 : offM (fun c j => c = 164 ∧ j = 66) m2 (mm_uI m2 164 66 0) := offM_uI ⟨rfl, rfl⟩
        have o : offM wW m (mm_uI m2 164 66 0) := offM_tr o2 (offM_mono o3 (fun c j q => by unfold wW; omega))
        have o' := offA_M o
        refine ⟨rfl, offA_of o (fun c j q => by unfold wW at q; unfold ml; omega), mIO_off d1 o' (fun c j q => by unfold wW at q; omega), mRU_off d2 o' (fun c j q => by unfold wW at q; omega), mST_off d3 o' (fun c j q => by unfold wW at q; omega), mSE_off d4 o' (fun c j q => by unfold wW at q; omega), ?_, ?_, uI_at _ _ _ _⟩
        · rw [o.1 _ _ (by unfold wW; omega)]; exact d5.1
        · rw [o.1 _ _ (by unfold wW; omega)]; exact d5.2.1
      · rw [i64_of, em1, e2] at q
        exact m_of hmm (k2' q).symm
  · refine ⟨-1, a, VV_up hv, ?_, fun m hGm hmm => ?_⟩
    · exact rX11_wanting hG (c_hasDuchy hG hc.2.1 (fun q => absurd q hdu) (fun _ => ipos rfl (cQ_same hc)))
    · refine rX12_wanting hGm ?_
      rw [hmm.2.1.1, if_neg hdu]
      exact ipos rfl (mQ_same hmm)
