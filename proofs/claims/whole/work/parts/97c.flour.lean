/-! ===== flour ===== -/
theorem cC_look {V h : Nat} {U : dU} {N : dN} {S : dSE} {M m : mm_M} (hc : cC V U N S M) (hV : V < 2 ^ 30) (hh : h < 7) (ho : offM wLk M m) (h11 : m.1 159 11 = nI V) (h12 : m.1 159 12 = nI h) (ht : lookR U N S h m) : cC V U N S m := by
  obtain ⟨⟨a1, a2, a3, a4, a5⟩, b1, b2, b3, b4, b5⟩ := hc
  have g : ∀ c j, ¬ wLk c j → m.1 c j = M.1 c j := fun c j q => ho.1 c j q
  have g149 : ∀ j, m.1 149 j = M.1 149 j := fun j => g _ _ (by unfold wLk wS; omega)
  have g156 : ∀ j, m.1 156 j = M.1 156 j := fun j => g _ _ (by unfold wLk wS; omega)
  have g13 : m.1 159 13 = M.1 159 13 := g _ _ (by unfold wLk wS; omega)
  have g14 : m.1 159 14 = M.1 159 14 := g _ _ (by unfold wLk wS; omega)
  refine ⟨⟨by rw [g149]; exact a1, by rw [g149]; exact a2, by rw [g156]; exact a3, by rw [h11]; exact nofut_self V hV, by rw [g13]; exact a5⟩, fun q => ?_, fun q => ?_, fun n n1 n2 q1 q2 => ?_, fun h' hh' q1 q2 => ?_, fun h' hh' q1 q2 => ?_⟩
  · rw [g149] at q
    obtain ⟨t1, t2, t3⟩ := b1 q
    exact ⟨by rw [g149]; exact t1, by rw [g149]; exact t2, fun e he => by rw [g 150 e (by unfold wLk wS; omega)]; exact t3 e he⟩
  · rw [g149] at q
    exact wantR_of (b2 q) (g149 3) (fun k => g 151 k (by unfold wLk wS; omega))
  · rw [g156] at q1 q2
    obtain ⟨t0, b, t1, t2, t3, t4⟩ := b3 n n1 n2 q1 q2
    exact ⟨t0, b, t1, by rw [g156]; exact t2, by rw [g156]; exact t3, fun k p hp => by rw [g 157 k (by unfold wLk wS; omega)]; exact t4 k p hp⟩
  · rw [h12] at q2
    obtain rfl : h = h' := (nI_eq (by omega) (by omega)).mp q2
    exact ht
  · rw [g13] at q1
    rw [g14] at q2
    obtain ⟨t1, t2, t3⟩ := b5 h' hh' q1 q2
    exact ⟨by rw [g _ _ (by unfold wLk wS; omega)]; exact t1, by rw [g _ _ (by unfold wLk wS; omega)]; exact t2, by rw [g _ _ (by unfold wLk wS; omega)]; exact t3⟩
theorem s19 : lw_S19 Inv := by
  intro u M x1 x2 hu hG hI
  refine stepI hI (fun a hv hc hm => ?_)
  have vu := hv.2.1.1
  have vn := hv.2.2.1.1.1
  have hd := hv.2.2.1.1.2.1
  have vs := hv.2.2.2.1
  have hth := vN_lt vu vn
  have hV : a.2.2.2.2 < 2 ^ 30 := by have := hv.2.2.2.2; omega
  have e0 : (0 : Int64).toInt = 0 := rfl
  have e2 : (2 : Int64).toInt = 2 := rfl
  by_cases ch : ∃ h, h < a.2.1.2.1.2.1 ∧ h < 7 ∧ x1 = nI h ∧ a.2.2.1.1.2.1.testBit h = true
  · obtain ⟨h, hh, h7, rfl, ct⟩ := ch
    have chh : isH a.2.1.2.1.2.1 (nI h) := ⟨by rw [nI_toInt (by omega)]; omega, by rw [nI_toInt (by omega)]; omega⟩
    have hdu := has_d hv chh
    have hU := hc.2.1.2.2.2.2.2.2.2.2.2.2 hdu
    refine ⟨if x2 = 0 then nI (fitTo a.2.1.2.1 a.2.2.1.1 a.2.2.2.1 h 100).length else if x2 = 1 then pickR (fitTo a.2.1.2.1 a.2.2.1.1 a.2.2.2.1 h 100).head? else if x2 = 2 then pickR (fitTo a.2.1.2.1 a.2.2.1.1 a.2.2.2.1 h 100).getLast? else -1, a, VV_up hv, ?_, fun m hGm hmm => ?_⟩
    · refine rX11_flour hG (c_isHouse hG hc.2.1 vu.2.1 (fun _ => ineg (by decide) (c_isThere st37 hG hc.2.2.1.1.2.1 hth h7 ?_)) (fun q => absurd chh q))
      rw [if_pos ct, hc.2.2.2.2.1]
      refine ineg (by decide) (c_look hG hU hc.2.2.1.1 vu vn hd h7 hc.2.2.2.1 vs (fun q1 q2 => hc.2.2.2.2.2.2.2.2.2.1 h h7 q1 q2) (fun m1 o1 g11 g12 t1 => ?_))
      have fin : ∀ z, cQ u a z M z m1 := fun z => ⟨rfl, offA_of o1 (fun c j q => by unfold wLk wS at q; unfold cl; omega), CC_cc hc o1 (fun c j q => by unfold wLk wS at q; omega) (cC_look hc.2.2.2.2.2 hV h7 o1 g11 g12 t1)⟩
      obtain ⟨t1a, t1b, t1c, -⟩ := t1
      refine ite_go (fun e => ?_) (fun n0 => ?_)
      · rw [if_pos e, t1a]; exact fin _
      rw [if_neg n0]
      refine ite_go (fun e => ?_) (fun n1 => ?_)
      · rw [if_pos e, t1b]; exact fin _
      rw [if_neg n1]
      refine ite_go (fun e => ?_) (fun n2 => ?_)
      · rw [if_pos e, t1c]; exact fin _
      rw [if_neg n2]; exact fin _
    · obtain ⟨d1, d2, d3, d4, d5⟩ := id hmm
      refine rX12_flour hGm (m_isHouseI hGm d2.2.1 vu.2.1 (fun _ => ineg (by decide) (m_isThere hGm d3.1 h7 ?_)) (fun q => absurd chh q))
      rw [if_pos ct]
      refine ineg (by decide) (m_isIn hGm (fun q => ineg (by decide) ?_) (fun q => ipos rfl (m_of hmm ?_)))
      · rw [i64_of, e0, e2] at q
        refine m_laysFits hGm hmm hv h7 (fun m1 hG1 o1 hM1 q76 q214 _ => ?_)
        generalize hUe : a.2.1.2.1 = U at *
        generalize hNe : a.2.2.1.1 = N at *
        generalize hSe : a.2.2.2.1 = S at *
        have loop : ∀ (k v : Nat), v + k = 100 → jX12_flour_44 899 (nI h) x2 m1 (mQ a (if x2 = 0 then nI (fitTo U N S h 100).length else if x2 = 1 then pickR (fitTo U N S h 100).head? else if x2 = 2 then pickR (fitTo U N S h 100).getLast? else -1) m) x2 (pickR (fitTo U N S h v).head?) (pickR (fitTo U N S h v).getLast?) (nI v) := by
          intro k
          induction k with
          | zero =>
            intro v hk
            obtain rfl : v = 100 := by omega
            refine lX12_flour_44 hG1 (ipos (by decide) ?_)
            have fin : ∀ z, mQ a z m z m1 := fun z => ⟨rfl, o1, hM1⟩
            rw [q76]
            refine ite_go (fun e => ?_) (fun n0 => ?_)
            · rw [if_pos e]; exact fin _
            rw [if_neg n0]
            refine ite_go (fun e => ?_) (fun n1 => ?_)
            · rw [if_pos e]; exact fin _
            rw [if_neg n1]
            have : x2 = 2 := by
              have h0 : ¬ x2.toInt = 0 := fun z => n0 (i32_eq.mpr z)
              have h1 : ¬ x2.toInt = 1 := fun z => n1 (i32_eq.mpr z)
              exact i32_eq.mpr (by show x2.toInt = 2; omega)
            rw [if_pos this]; exact fin _
          | succ k ih =>
            intro v hk
            have f1 := fitTo_1 (U := U) (N := N) (S := S) (h := h) (n := v)
            have ih := ih (v + 1) (by omega)
            refine lX12_flour_44 hG1 (ineg (nI_nlt (a := 99) (by omega) (by decide)) ?_)
            rw [nI_clamp (by omega), q214 v (by omega), nI_1]
            refine ⟨vp_in_nI (by omega) (by decide), ?_⟩
            by_cases cf : fitA U N S h v = true
            · rw [if_pos cf] at f1 ⊢
              rw [f1, head_snoc, List.getLast?_append] at ih
              refine ineg (by decide) ?_
              cases hhd : (fitTo U N S h v).head? with
              | none =>
                rw [hhd] at ih
                exact ipos rfl ih
              | some y =>
                rw [hhd] at ih
                have hy : y < v := (fitTo_mem (List.mem_of_mem_head? hhd)).1
                exact ineg (nI_nm1 (b := y) (by omega)) ih
            · rw [if_neg cf] at f1 ⊢
              rw [f1] at ih
              exact ipos rfl ih
        exact loop 100 0 (by omega)
      · rw [i64_of, e0, e2] at q
        have h0 : ¬ x2 = 0 := fun z => q (by rw [z]; decide)
        have h1 : ¬ x2 = 1 := fun z => q (by rw [z]; decide)
        have h2 : ¬ x2 = 2 := fun z => q (by rw [z]; decide)
        rw [if_neg h0, if_neg h1, if_neg h2]
  · refine ⟨-1, a, VV_up hv, ?_, fun m hGm hmm => ?_⟩
    · refine rX11_flour hG (c_isHouse hG hc.2.1 vu.2.1 (fun q => ineg (by decide) ?_) (fun _ => ipos rfl (cQ_same hc)))
      obtain ⟨h, hh, h7, rfl⟩ := isH_nI q vu.2.1
      refine c_isThere st37 hG hc.2.2.1.1.2.1 hth h7 ?_
      rw [if_neg (fun z => ch ⟨h, hh, h7, rfl, z⟩)]
      exact ipos rfl (cQ_same hc)
    · refine rX12_flour hGm (m_isHouseI hGm hmm.2.1.2.1 vu.2.1 (fun q => ineg (by decide) ?_) (fun _ => ipos rfl (mQ_same hmm)))
      obtain ⟨h, hh, h7, rfl⟩ := isH_nI q vu.2.1
      refine m_isThere hGm hmm.2.2.1.1 h7 ?_
      rw [if_neg (fun z => ch ⟨h, hh, h7, rfl, z⟩)]
      exact ipos rfl (mQ_same hmm)
