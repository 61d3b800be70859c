/-! ===== tells: both ===== -/
theorem cC_choose {V h : Nat} {U : dU} {N : dN} {S : dSE} {M m : mm_M} (hc : cC V U N S M) (hV : V < 2 ^ 30) (hh : h < 7) (ho : offM wCz M m) (h13 : m.1 159 13 = nI V) (h14 : m.1 159 14 = nI h) (ht : chooseR U N S h m) : cC V U N S m := by
  obtain ⟨⟨a1, a2, a3, a4, a5⟩, b1, b2, b3, b4, b5⟩ := hc
  have g : ∀ c j, ¬ wCz c j → m.1 c j = M.1 c j := fun c j q => ho.1 c j q
  have g149 : ∀ j, m.1 149 j = M.1 149 j := fun j => g _ _ (by unfold wCz wS; omega)
  have g156 : ∀ j, m.1 156 j = M.1 156 j := fun j => g _ _ (by unfold wCz wS; omega)
  have g11 : m.1 159 11 = M.1 159 11 := g _ _ (by unfold wCz wS; omega)
  have g12 : m.1 159 12 = M.1 159 12 := g _ _ (by unfold wCz wS; omega)
  refine ⟨⟨by rw [g149]; exact a1, by rw [g149]; exact a2, by rw [g156]; exact a3, by rw [g11]; exact a4, by rw [h13]; exact nofut_self V hV⟩, fun q => ?_, fun q => ?_, fun n n1 n2 q1 q2 => ?_, fun h' hh' q1 q2 => ?_, fun h' hh' q1 q2 => ?_⟩
  · rw [g149] at q
    obtain ⟨t1, t2, t3⟩ := b1 q
    exact ⟨by rw [g149]; exact t1, by rw [g149]; exact t2, fun e he => by rw [g 150 e (by unfold wCz wS; omega)]; exact t3 e he⟩
  · rw [g149] at q
    exact wantR_of (b2 q) (g149 3) (fun k => g 151 k (by unfold wCz wS; omega))
  · rw [g156] at q1 q2
    obtain ⟨t0, b, t1, t2, t3, t4⟩ := b3 n n1 n2 q1 q2
    exact ⟨t0, b, t1, by rw [g156]; exact t2, by rw [g156]; exact t3, fun k p hp => by rw [g 157 k (by unfold wCz wS; omega)]; exact t4 k p hp⟩
  · rw [g11] at q1
    rw [g12] at q2
    obtain ⟨t1, t2, t3, t4⟩ := b4 h' hh' q1 q2
    exact ⟨by rw [g _ _ (by unfold wCz wS; omega)]; exact t1, by rw [g _ _ (by unfold wCz wS; omega)]; exact t2, by rw [g _ _ (by unfold wCz wS; omega)]; exact t3, fun v hv => by rw [g _ _ (by unfold wCz wS; omega)]; exact t4 v hv⟩
  · rw [h14] at q2
    obtain rfl : h = h' := (nI_eq (by omega) (by omega)).mp q2
    exact ht
theorem et_key {U : dU} {N : dN} {h t e v : Nat} : etR (tasteAt U (supA N h v) t e) + 1 = nI (miK (keyA U N h t e v)) := by
  have hk := keyA_v (U := U) (N := N) (h := h) (t := t) (e := e) (v := v)
  unfold keyA at hk ⊢
  cases hq : tasteAt U (supA N h v) t e with
  | none => rfl
  | some q =>
    rw [hq] at hk
    have := hk q.2 rfl
    unfold inI at this
    show q.2 + 1 = nI (q.2.toInt.toNat + 1)
    rw [i32_nI this.1, nI_1, nI_toInt (by omega)]
    rfl
theorem m_mostAlike {d h t e : Nat} {U : dU} {N : dN} {S : dSE} {M : mm_M} {K : Int32 → mm_M → Prop} (hG : mm_G M.2.2) (ht : t < 31) (he : e < 7) (h214 : ∀ v, v < 100 → M.1 214 v = if fitA U N S h v then 1 else 0) (h213 : ∀ v, v < 100 → M.1 213 (217 * v + 7 * t + e) = etR (tasteAt U (supA N h v) t e)) (hK : ∀ m, offM (fun c _ => c = 215) M m → K (nI (mostA U N S h t e)) m) : mm_CI mX12_mostAlike d [.ref 164, .int (7 * nI t + nI e)] M K := by
  have e7 : 7 * nI t + nI e = nI (7 * t + e) := by
    have e2 : 7 * nI t = nI (7 * t) := pk_mul 7 t
    rw [e2, nI_add]
  rw [e7]
  refine rX12_mostAlike hG ?_
  have loop : ∀ (k v : Nat) (m : mm_M), v + k = 100 → offM (fun c _ => c = 215) M m → (∀ q, vKey q → m.1 215 (miK q) = nI (((fitTo U N S h v).foldl (likeS (keyA U N h t e)) (fun _ => 0, 0)).1 q)) → jX12_mostAlike_25 d (nI (7 * t + e)) m K (nI (7 * t + e)) (nI ((fitTo U N S h v).foldl (likeS (keyA U N h t e)) (fun _ => 0, 0)).2) (nI v) := by
    intro k
    induction k with
    | zero =>
      intro v m hk o hq
      obtain rfl : v = 100 := by omega
      exact lX12_mostAlike_25 (by rw [o.2.2]; exact hG) (ipos (by decide) (hK m o))
    | succ k ih =>
      intro v m hk o hq
      have hlen := fitTo_len (U := U) (N := N) (S := S) (h := h) (n := v)
      have hle := likeS_le (f := keyA U N h t e) (fitTo U N S h v) (fun _ => 0, 0) 0 (fun _ => Nat.le_refl _) (Nat.le_refl _)
      have ff := fit_foldl (U := U) (N := N) (S := S) (h := h) (v := v) (f := keyA U N h t e) (X := (fun _ => 0, 0))
      have ih := ih (v + 1)
      rw [ff] at ih
      generalize (fitTo U N S h v).foldl (likeS (keyA U N h t e)) (fun _ => 0, 0) = X at hq hle ih ⊢
      have ew : 217 * nI v + nI (7 * t + e) = nI (217 * v + 7 * t + e) := by
        have e1 : 217 * nI v = nI (217 * v) := pk_mul 217 v
        rw [e1, nI_add, Nat.add_assoc]
      refine lX12_mostAlike_25 (by rw [o.2.2]; exact hG) (ineg (nI_nlt (a := 99) (by omega) (by decide)) ⟨vp_in_nI (by omega) (by decide), ?_⟩)
      rw [nI_clamp (n := v) (by omega), o.1 214 v (by omega), h214 v (by omega), nI_1 v]
      by_cases cf : fitA U N S h v = true
      · rw [if_pos cf] at ih ⊢
        have hk' := keyA_v (U := U) (N := N) (h := h) (t := t) (e := e) (v := v)
        have hcl := (ciK_lt hk').2
        have hx := hq _ hk'
        have hb := hle.1 (keyA U N h t e v)
        refine ineg (by decide) ?_
        rw [ew, nI_clamp (n := 217 * v + 7 * t + e) (by omega), o.1 213 _ (by omega), h213 v (by omega), et_key, nI_clamp (n := miK (keyA U N h t e v)) (by omega), hx, uI_at, nI_1]
        have el : likeS (keyA U N h t e) X v = (fun q => if q = keyA U N h t e v then X.1 q + 1 else X.1 q, max X.2 (X.1 (keyA U N h t e v) + 1)) := rfl
        rw [el] at ih
        have up : ∀ q, vKey q → (mm_uI m 215 (miK (keyA U N h t e v)) (nI (X.1 (keyA U N h t e v) + 1))).1 215 (miK q) = nI (if q = keyA U N h t e v then X.1 q + 1 else X.1 q) := fun q hvq => by
          by_cases c : q = keyA U N h t e v
          · subst c; rw [uI_at, if_pos rfl]
          · rw [uI_j (fun z => c ((ciK_inj hvq hk').2 z)), if_neg c]; exact hq q hvq
        have ih := ih (mm_uI m 215 (miK (keyA U N h t e v)) (nI (X.1 (keyA U N h t e v) + 1))) (by omega) (offM_tr o (offM_uI rfl)) up
        refine ⟨vp_in_nI (by omega) (by decide), vp_in_nI (by omega) (by decide), vp_in_nI (by omega) (by decide), vp_in_nI (by omega) (by decide), ?_⟩
        by_cases c : X.1 (keyA U N h t e v) + 1 ≤ X.2
        · rw [Nat.max_eq_left c] at ih
          exact ipos (nI_le c (by omega)) ih
        · rw [Nat.max_eq_right (by omega)] at ih
          exact ineg (nI_ge (by omega) (by omega)) ⟨vp_in_nI (by omega) (by decide), ih⟩
      · rw [if_neg cf] at ih ⊢
        exact ipos rfl (ih m (by omega) o hq)
  have zero : ∀ (k i : Nat) (m : mm_M), i + k = 101 → offM (fun c _ => c = 215) M m → (∀ j, j < i → m.1 215 j = 0) → jX12_mostAlike_4 d (nI (7 * t + e)) m K (nI (7 * t + e)) 0 (nI i) := by
    intro k
    induction k with
    | zero =>
      intro i m hi o hz
      obtain rfl : i = 101 := by omega
      refine lX12_mostAlike_4 (by rw [o.2.2]; exact hG) (ipos (by decide) (loop 100 0 m (by omega) o (fun q hvq => ?_)))
      have := (ciK_lt hvq).2
      rw [hz _ (by omega)]
      rfl
    | succ k ih =>
      intro i m hi o hz
      refine lX12_mostAlike_4 (by rw [o.2.2]; exact hG) (ineg (nI_nlt (a := 100) (by omega) (by decide)) ⟨vp_in_nI (by omega) (by decide), ?_⟩)
      rw [nI_clamp (by omega), nI_1 i]
      refine ih (i + 1) _ (by omega) (offM_tr o (offM_uI rfl)) (fun j hj => ?_)
      by_cases ej : j = i
      · subst ej; exact uI_at _ _ _ _
      · rw [uI_j ej]; exact hz j (by omega)
  exact zero 101 0 M (by omega) offM_rf (fun j hj => by omega)
def lastR (acc : Option (Nat × Nat × Nat)) : Int32 := match acc with
  | none => 0
  | some q => nI q.2.2
def tellZ (acc : Option (Nat × Nat × Nat)) (x : Int32) : Int32 := if x = 0 then pickR (acc.map (·.1)) else if x = 1 then pickR (acc.map (·.2.1)) else if x = 2 then pickR (acc.map (·.2.2)) else -1
theorem s20 : lw_S20 Inv := by
  intro u M x1 x2 hu hG hI
  refine stepI hI (fun a hv hc hm => ?_)
  have vu := hv.2.1.1
  have vn := hv.2.2.1.1.1
  have hd := hv.2.2.1.1.2.1
  have vs := hv.2.2.2.1
  have hth := vN_lt vu vn
  have hV : a.2.2.2.2 < 2 ^ 30 := by have := hv.2.2.2.2; omega
  have e0 : (0 : Int64).toInt = 0 := rfl
  have e2 : (2 : Int64).toInt = 2 := rfl
  by_cases ch : ∃ h, h < a.2.1.2.1.2.1 ∧ h < 7 ∧ x1 = nI h ∧ a.2.2.1.1.2.1.testBit h = true
  · obtain ⟨h, hh, h7, rfl, ct⟩ := ch
    have chh : isH a.2.1.2.1.2.1 (nI h) := ⟨by rw [nI_toInt (by omega)]; omega, by rw [nI_toInt (by omega)]; omega⟩
    have hdu := has_d hv chh
    have hU := hc.2.1.2.2.2.2.2.2.2.2.2.2 hdu
    refine ⟨tellZ (tellA a.2.1.2.1 a.2.2.1.1 a.2.2.2.1 h) x2, a, VV_up hv, ?_, fun m hGm hmm => ?_⟩
    · refine rX11_tells hG (c_isHouse hG hc.2.1 vu.2.1 (fun _ => ineg (by decide) (c_isThere st37 hG hc.2.2.1.1.2.1 hth h7 ?_)) (fun q => absurd chh q))
      rw [if_pos ct, hc.2.2.2.2.1]
      refine ineg (by decide) (c_look hG hU hc.2.2.1.1 vu vn hd h7 hc.2.2.2.1 vs (fun q1 q2 => hc.2.2.2.2.2.2.2.2.2.1 h h7 q1 q2) (fun m1 o1 g11 g12 t1 => ?_))
      have hC1 := cC_look hc.2.2.2.2.2 hV h7 o1 g11 g12 t1
      have hG1 : mm_G m1.2.2 := by rw [o1.2.2]; exact hG
      rw [o1.1 0 18 (by unfold wLk wS; omega), hc.2.2.2.2.1]
      refine c_choose hG1 (cU_off hU o1 (fun c j q => by unfold wLk wS at q; omega)) (cN_off hc.2.2.1.1 o1 (fun c j q => by unfold wLk wS at q; omega)) vu vn hd h7 t1 (fun q1 q2 => hC1.2.2.2.2.2 h h7 q1 q2) (fun m2 o2 g13 g14 t2 => ?_)
      have hC2 := cC_choose hC1 hV h7 o2 g13 g14 t2
      have oo : offM (fun c j => wLk c j ∨ wCz c j) M m2 := offM_tr (offM_mono o1 (fun c j q => Or.inl q)) (offM_mono o2 (fun c j q => Or.inr q))
      have fin : ∀ z, cQ u a z M z m2 := fun z => ⟨rfl, offA_of oo (fun c j q => by unfold wLk wCz wS at q; unfold cl; omega), CC_cc hc oo (fun c j q => by unfold wLk wCz wS at q; omega) hC2⟩
      obtain ⟨t2a, t2b, t2c⟩ := t2
      unfold tellZ
      refine ite_go (fun e => ?_) (fun n0 => ?_)
      · rw [if_pos e, t2a]; exact fin _
      rw [if_neg n0]
      refine ite_go (fun e => ?_) (fun n1 => ?_)
      · rw [if_pos e, t2b]; exact fin _
      rw [if_neg n1]
      refine ite_go (fun e => ?_) (fun n2 => ?_)
      · rw [if_pos e, t2c]; exact fin _
      rw [if_neg n2]; exact fin _
    · obtain ⟨d1, d2, d3, d4, d5⟩ := id hmm
      refine rX12_tells hGm (m_isHouseI hGm d2.2.1 vu.2.1 (fun _ => ineg (by decide) (m_isThere hGm d3.1 h7 ?_)) (fun q => absurd chh q))
      rw [if_pos ct]
      refine ineg (by decide) (m_isIn hGm (fun q => ineg (by decide) ?_) (fun q => ipos rfl (m_of hmm ?_)))
      · rw [i64_of, e0, e2] at q
        refine m_laysFits hGm hmm hv h7 (fun m1 hG1 o1 hM1 q76 q214 q213 => ?_)
        have hhs : a.2.1.2.1.2.1 ≤ 7 := vu.2.1
        have n1U : mU a.2.1.2.1 m1 := hM1.2.1.2.1
        have n1N : mN a.2.2.1.1 m1 := hM1.2.2.1.1
        have st : ∀ m2, offM (fun c _ => c = 215) m1 m2 → mm_G m2.2.2 ∧ mU a.2.1.2.1 m2 ∧ mN a.2.2.1.1 m2 ∧ offA ml m m2 ∧ MM a m2 := fun m2 o => ⟨by rw [o.2.2]; exact hG1, mU_off n1U o (fun c j q => by omega), mN_off n1N o (fun c j q => by omega), offA_tr o1 (offA_of o (fun c j q => by unfold ml; omega)), MM_sc hM1 o (fun c j q => by unfold k2 k4 k6 k8 k10; omega)⟩
        generalize hUe : a.2.1.2.1 = U at *
        generalize hNe : a.2.2.1.1 = N at *
        generalize hSe : a.2.2.2.1 = S at *
        obtain ⟨eD, hD, hDt⟩ := daysL_D hd
        have hlen := fitTo_len (U := U) (N := N) (S := S) (h := h) (n := 100)
        have e999 : (999 : Int32).toInt = 999 := rfl
        have t0 : (0 : Int32).toNatClampNeg = 0 := rfl
        have last : ∀ m2, offM (fun c _ => c = 215) m1 m2 → tlB (tellA U N S h) → jX12_tells_140 899 (nI h) x2 m2 (mQ a (tellZ (tellA U N S h) x2) m) x2 (pickR ((tellA U N S h).map (·.1))) (pickR ((tellA U N S h).map (·.2.1))) (lastR (tellA U N S h)) := fun m2 o2 hb => by
          obtain ⟨w1, w2, w3, w4, w5⟩ := st m2 o2
          refine lX12_tells_140 w1 ?_
          have fin : ∀ z, mQ a z m z m2 := fun z => ⟨rfl, w4, w5⟩
          have hx2 : x2 = 0 ∨ x2 = 1 ∨ x2 = 2 := by
            have : x2.toInt = 0 ∨ x2.toInt = 1 ∨ x2.toInt = 2 := by omega
            rcases this with z | z | z
            · exact Or.inl (i32_eq.mpr z)
            · exact Or.inr (Or.inl (i32_eq.mpr z))
            · exact Or.inr (Or.inr (i32_eq.mpr z))
          unfold tellZ
          generalize tellA U N S h = acc at hb ⊢
          cases acc with
          | none =>
            refine ipos rfl ?_
            rcases hx2 with rfl | rfl | rfl
            · exact fin _
            · exact fin _
            · exact fin _
          | some p =>
            have := (hb p rfl).1
            refine ineg (nI_nm1 (b := p.1) (by omega)) ?_
            rcases hx2 with rfl | rfl | rfl
            · exact ipos rfl (fin _)
            · exact ineg (by decide) (ipos rfl (fin _))
            · exact ineg (by decide) (ineg (by decide) (fin _))
        by_cases c0 : (fitTo U N S h 100).length = 0
        · have eA : tellA U N S h = none := by unfold tellA; rw [if_pos c0]
          rw [eA] at last ⊢
          refine lX12_tells_47 hG1 ?_
          rw [q76, c0]
          exact ipos (by decide) (last m1 offM_rf (fun q hq => by cases hq))
        · have eA : tellA U N S h = tl (mostA U N S h) U.2.1 (daysL N) := by unfold tellA; rw [if_neg c0]; rfl
          rw [eA] at last ⊢
          have days : ∀ (p t : Nat) (m2 : mm_M), t + p = daysL N → offM (fun c _ => c = 215) m1 m2 → tlB (tl (mostA U N S h) U.2.1 t) → jX12_tells_47 899 (nI h) x2 m2 (mQ a (tellZ (tl (mostA U N S h) U.2.1 (daysL N)) x2) m) x2 (pickR ((tl (mostA U N S h) U.2.1 t).map (·.1))) (pickR ((tl (mostA U N S h) U.2.1 t).map (·.2.1))) (lastR (tl (mostA U N S h) U.2.1 t)) (nI t) := by
            intro p
            induction p with
            | zero =>
              intro t m2 ht o2 hb
              obtain rfl : t = daysL N := by omega
              obtain ⟨w1, w2, w3, w4, w5⟩ := st m2 o2
              refine lX12_tells_47 w1 ?_
              rw [o2.1 _ _ (by omega), q76, t0, w3.1]
              refine ineg (nI_ge (b := (fitTo U N S h 100).length) (a := 0) (by omega) (by omega)) (ite_go (fun c => last m2 o2 hb) (fun c => ipos ?_ (last m2 o2 hb)))
              have c' : daysL N ≤ 30 := by
                by_cases z : daysL N ≤ 30
                · exact z
                · exact absurd (nI_lt (a := 30) (b := daysL N) (by omega) (by omega)) c
              have := hDt (daysL N)
              unfold inI at hd
              rw [Int32.le_iff_toInt_le, Int32.toInt_add, nI_toInt (by omega), e999]
              show 999 ≤ (N.1.toInt + (daysL N : Int)).bmod _
              rw [bm32 (by omega) (by omega)]
              omega
            | succ p ih =>
              intro t m2 ht o2 hb
              obtain ⟨w1, w2, w3, w4, w5⟩ := st m2 o2
              have ht' := (hDt t).mp (by omega)
              have ih := ih (t + 1)
              rw [tl_1] at ih
              refine lX12_tells_47 w1 ?_
              rw [o2.1 _ _ (by omega), q76, t0, w3.1]
              refine ineg (nI_ge (b := (fitTo U N S h 100).length) (a := 0) (by omega) (by omega)) (ineg (nI_nlt (a := 30) (by omega) (by decide)) (ineg (fun z => ?_) ?_))
              · unfold inI at hd
                rw [Int32.le_iff_toInt_le, Int32.toInt_add, nI_toInt (by omega), e999] at z
                have z : 999 ≤ (N.1.toInt + (t : Int)).bmod (2 ^ 32) := z
                rw [bm32 (by omega) (by omega)] at z
                omega
              generalize tl (mostA U N S h) U.2.1 t = acc at hb ih ⊢
              have houses : ∀ (k e : Nat) (m3 : mm_M), e + k = U.2.1 → offM (fun c _ => c = 215) m1 m3 → tlB (te (mostA U N S h) t e acc) → jX12_tells_79 899 (nI h) x2 m3 (mQ a (tellZ (tl (mostA U N S h) U.2.1 (daysL N)) x2) m) x2 (pickR ((te (mostA U N S h) t e acc).map (·.1))) (pickR ((te (mostA U N S h) t e acc).map (·.2.1))) (lastR (te (mostA U N S h) t e acc)) (nI t) (nI e) := by
                intro k
                induction k with
                | zero =>
                  intro e m3 he o3 rb
                  obtain rfl : e = U.2.1 := by omega
                  obtain ⟨y1, y2, y3, y4, y5⟩ := st m3 o3
                  refine lX12_tells_79 y1 (m_houseMany y1 ?_)
                  rw [y2.2.1, nI_1 t]
                  exact ipos (nI_le (Nat.le_refl _) (by omega)) (ih m3 (by omega) o3 rb)
                | succ k ihk =>
                  intro e m3 he o3 rb
                  obtain ⟨y1, y2, y3, y4, y5⟩ := st m3 o3
                  refine lX12_tells_79 y1 (m_houseMany y1 ?_)
                  rw [y2.2.1, nI_1 e]
                  refine ineg (nI_ge (by omega) (by omega)) (m_mostAlike (U := U) (N := N) (S := S) (h := h) y1 (by omega) (by omega) (fun v hv => by rw [o3.1 _ _ (by omega)]; exact q214 v hv) (fun v hv => by rw [o3.1 _ _ (by omega)]; exact q213 v t e hv (by omega) (by omega) ht'.2) (fun m4 o4 => ?_))
                  have o4' := offM_tr o3 o4
                  have mle := mostA_le (U := U) (N := N) (S := S) (h := h) (t := t) (e := e)
                  have ihk := ihk (e + 1) m4 (by omega) o4'
                  rw [te_1] at ihk
                  have nb := tellS_b (f := mostA U N S h) mle (show t ≤ 30 by omega) (show e < 7 by omega) rb
                  generalize te (mostA U N S h) t e acc = acc2 at rb nb ihk ⊢
                  have ihk := ihk nb
                  cases acc2 with
                  | none => exact ipos rfl ihk
                  | some r =>
                    obtain ⟨q1, -, q3⟩ := rb r rfl
                    refine ineg (nI_nm1 (b := r.1) (by omega)) ?_
                    have et : tellS (mostA U N S h) t (some r) e = if mostA U N S h t e < r.2.2 then some (t, e, mostA U N S h t e) else some r := rfl
                    rw [et] at ihk
                    by_cases c : mostA U N S h t e < r.2.2
                    · rw [if_pos c] at ihk
                      exact ipos (nI_lt c (by omega)) ihk
                    · rw [if_neg c] at ihk
                      exact ineg (nI_nlt (b := r.2.2) (by omega) (by omega)) ihk
              exact houses U.2.1 0 m2 (by omega) o2 hb
          exact days (daysL N) 0 m1 (by omega) offM_rf (fun q hq => by cases hq)
      · rw [i64_of, e0, e2] at q
        have h0 : ¬ x2 = 0 := fun z => q (by rw [z]; decide)
        have h1 : ¬ x2 = 1 := fun z => q (by rw [z]; decide)
        have h2 : ¬ x2 = 2 := fun z => q (by rw [z]; decide)
        unfold tellZ
        rw [if_neg h0, if_neg h1, if_neg h2]
  · refine ⟨-1, a, VV_up hv, ?_, fun m hGm hmm => ?_⟩
    · refine rX11_tells hG (c_isHouse hG hc.2.1 vu.2.1 (fun q => ineg (by decide) ?_) (fun _ => ipos rfl (cQ_same hc)))
      obtain ⟨h, hh, h7, rfl⟩ := isH_nI q vu.2.1
      refine c_isThere st37 hG hc.2.2.1.1.2.1 hth h7 ?_
      rw [if_neg (fun z => ch ⟨h, hh, h7, rfl, z⟩)]
      exact ipos rfl (cQ_same hc)
    · refine rX12_tells hGm (m_isHouseI hGm hmm.2.1.2.1 vu.2.1 (fun q => ineg (by decide) ?_) (fun _ => ipos rfl (mQ_same hmm)))
      obtain ⟨h, hh, h7, rfl⟩ := isH_nI q vu.2.1
      refine m_isThere hGm hmm.2.2.1.1 h7 ?_
      rw [if_neg (fun z => ch ⟨h, hh, h7, rfl, z⟩)]
      exact ipos rfl (mQ_same hmm)
