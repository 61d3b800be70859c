/-! ===== flour: the reference ===== -/
def etR (o : Option (Nat × Int32)) : Int32 := match o with
  | none => -1
  | some q => q.2
theorem et_ta {o : Option (Nat × Int32)} {t : Int32} (ho : ∀ q, o = some q → inI 0 99 q.2) (ht : inI 0 99 t ∨ t = 255) : (etR o = if t = 255 then -1 else t) ↔ taR true o = t := by
  have e255 : (255 : Int32).toInt = 255 := rfl
  have em1 : (-1 : Int32).toInt = -1 := rfl
  cases o with
  | none =>
    show ((-1 : Int32) = if t = 255 then -1 else t) ↔ (255 : Int32) = t
    by_cases c : t = 255
    · rw [if_pos c]; exact ⟨fun _ => c.symm, fun _ => rfl⟩
    · rw [if_neg c]
      refine ⟨fun q => ?_, fun q => absurd q.symm c⟩
      rcases ht with ht | ht
      · rw [← q] at ht; unfold inI at ht; omega
      · exact absurd ht c
  | some q =>
    have hq := ho q rfl
    show (q.2 = if t = 255 then -1 else t) ↔ q.2 = t
    unfold inI at hq
    by_cases c : t = 255
    · rw [if_pos c, c]
      constructor
      · intro z; rw [z] at hq; omega
      · intro z; rw [z] at hq; omega
    · rw [if_neg c]
theorem m_eatenTaste {d e : Nat} {o : Option (Nat × Int32)} {M : mm_M} {K : Int32 → mm_M → Prop} (hG : mm_G M.2.2) (he : e < 7) (h1 : M.1 202 e = bkR o) (ho : ∀ q, o = some q → q.1 < 7 ∧ M.1 203 e = q.2) (hK : K (etR o) M) : mm_CI mX12_eatenTaste d [.ref 164, .int (nI e)] M K := by
  refine rX12_eatenTaste hG ?_
  rw [nI_clamp (by omega), h1]
  refine ⟨vp_in_nI he (by decide), ?_⟩
  cases o with
  | none => exact ipos rfl hK
  | some q =>
    obtain ⟨q1, q2⟩ := ho q rfl
    refine ineg (nI_nm1 (b := q.1) (by omega)) ⟨vp_in_nI he (by decide), ?_⟩
    rw [q2]; exact hK
def wLf (c j : Nat) : Prop := wTk c j ∨ c = 213 ∨ c = 214 ∨ (c = 164 ∧ j = 76)
theorem m_laysFits {d h : Nat} {u : Nat} {a : dA} {M : mm_M} {K : mm_M → Prop} (hG : mm_G M.2.2) (hmm : MM a M) (hv : VV u a) (hh : h < 7) (hK : ∀ m, mm_G m.2.2 → offA ml M m → MM a m → m.1 164 76 = nI (fitTo a.2.1.2.1 a.2.2.1.1 a.2.2.2.1 h 100).length → (∀ v, v < 100 → m.1 214 v = if fitA a.2.1.2.1 a.2.2.1.1 a.2.2.2.1 h v then 1 else 0) → (∀ (v t e : Nat), v < 100 → t < 31 → e < a.2.1.2.1.2.1 → a.2.2.1.1.1.toInt + t < 999 → m.1 213 (217 * v + 7 * t + e) = etR (tasteAt a.2.1.2.1 (supA a.2.2.1.1 h v) t e)) → K m) : mm_CV mX12_laysFits (d + 12) [.ref 164, .int (nI h)] M K := by
  have vu := hv.2.1.1
  have vn := hv.2.2.1.1.1
  have hd := hv.2.2.1.1.2.1
  have vs := hv.2.2.2.1
  have h16 := vs.1
  have hu7 := vu.2.1
  obtain ⟨d1, d2, d3, d4, d5⟩ := id hmm
  generalize hUe : a.2.1.2.1 = U at *
  generalize hNe : a.2.2.1.1 = N at *
  generalize hSe : a.2.2.2.1 = S at *
  have t0 : (0 : Int32).toNatClampNeg = 0 := rfl
  have e999 : (999 : Int32).toInt = 999 := rfl
  have d2U : mU U M := by rw [← hUe]; exact d2.2.1
  have d3N : mN N M := by rw [← hNe]; exact d3.1
  have nat : ∀ k, k < S.1 → S.2 (3 * k) = nI (S.2 (3 * k)).toInt.toNat ∧ (S.2 (3 * k)).toInt.toNat ≤ 30 ∧ S.2 (3 * k + 1) = nI (S.2 (3 * k + 1)).toInt.toNat ∧ (S.2 (3 * k + 1)).toInt.toNat < U.2.1 ∧ (S.2 (3 * k)).toInt = ((S.2 (3 * k)).toInt.toNat : Int) := fun k hk => by
    obtain ⟨a1, a2, a3⟩ := vs.2 k hk
    unfold inI at a1
    exact ⟨i32_nI a1.1, by omega, i32_nI a2.1, by omega, by omega⟩
  refine rX12_laysFits hG ?_
  have o0 : offM (fun c j => c = 164 ∧ j = 76) M (mm_uI M 164 76 0) := offM_uI ⟨rfl, rfl⟩
  have g76 : (mm_uI M 164 76 0).1 164 76 = nI 0 := uI_at _ _ _ _
  have e199 : (mm_uI M 164 76 0).1 199 = M.1 199 := uI_c (by decide)
  generalize mm_uI M 164 76 0 = m0 at o0 g76 e199 ⊢
  refine m_putsAside (by rw [o0.2.2]; exact hG) (fun m1 o1 h57 hA => ?_)
  rw [e199] at hA
  have ho1 : offM wLf M m1 := offM_tr (offM_mono o0 (fun c j q => by unfold wLf; omega)) (offM_mono o1 (fun c j q => by unfold wPa at q; unfold wLf wTk; omega))
  have st : ∀ m, offM wLf M m → mm_G m.2.2 ∧ mU U m ∧ mSE S m ∧ m.1 164 59 = nI 0 := fun m o => ⟨by rw [o.2.2]; exact hG, mU_off d2U o (fun c j q => by unfold wLf wTk wE wA at q; omega), mSE_off d4 (offA_M o) (fun c j q => by unfold wLf wTk wE wA at q; omega), by rw [o.1 _ _ (by unfold wLf wTk wE wA; omega)]; exact d5.2.1⟩
  -- what a day shows: bt is the day's bakers and tastes
  have seen : ∀ (v t : Nat) (m : mm_M) (K' : Int32 → mm_M → Prop), v < 100 → t ≤ 30 → offM wLf M m → m.1 199 0 = (daysM U 0 t (supA N h v)).1 + 1 → (∀ e, e < U.2.1 → m.1 202 e = bkR ((serveA U (daysM U 0 t (supA N h v)) 0).2.2.1 e)) → (∀ e q, e < U.2.1 → (serveA U (daysM U 0 t (supA N h v)) 0).2.2.1 e = some q → m.1 203 e = q.2) → ((∀ k, k < S.1 → (S.2 (3 * k)).toInt.toNat = t → fitK U N S h v k = true) → K' 1 m) → (¬ (∀ k, k < S.1 → (S.2 (3 * k)).toInt.toNat = t → fitK U N S h v k = true) → K' 0 m) → mm_CI mX12_isAsSeen (d + 11) [.ref 164, .int (nI t)] m K' := by
    intro v t m K' hv100 ht o h0 b2 b3 yes no
    obtain ⟨w1, w2, w3, w4⟩ := st m o
    have vx := supA_v (h := h) vn hv100
    obtain ⟨vd, dd⟩ := daysM_v (rest := 0) vu vx hd t (by omega)
    have dd : (daysM U 0 t (supA N h v)).1.toInt = N.1.toInt + t := dd
    refine rX12_isAsSeen w1 ?_
    have loop : ∀ (q i : Nat), i + q = S.1 → (∀ k, k < i → (S.2 (3 * k)).toInt.toNat = t → fitK U N S h v k = true) → jX12_isAsSeen_2 (d + 10) (nI t) m K' (nI t) (nI i) := by
      intro q
      induction q with
      | zero =>
        intro i hi hk
        refine lX12_isAsSeen_2 w1 ?_
        rw [w3.1]
        exact ipos (nI_le (by omega) (by omega)) (yes (fun k k1 k2 => hk k (by omega) k2))
      | succ q ih =>
        intro i hi hk
        obtain ⟨x1, x2, x3⟩ := x3k i
        obtain ⟨a1, a2, a3, a4, a5⟩ := nat i (by omega)
        have vt := (vs.2 i (by omega)).2.2
        refine lX12_isAsSeen_2 w1 ?_
        rw [w3.1, x1, x3, nI_clamp (n := 3 * i) (by omega), nI_clamp (n := 3 * i + 2) (by omega), w3.2 _ (by omega), w3.2 _ (by omega), nI_1]
        refine ineg (nI_ge (by omega) (by omega)) ⟨vp_in_nI (by omega) (by decide), ite_go (fun e => ⟨vp_in_nI (by omega) (by decide), ?_⟩) (fun e => ih (i + 1) (by omega) (fun k k1 k2 => ?_))⟩
        · have e' : (S.2 (3 * i)).toInt.toNat = t := (nI_eq (by omega) (by omega)).mp (a1.symm.trans e)
          have main : jX12_isAsSeen_55 (d + 10) (nI t) m K' (nI t) (nI i) (if S.2 (3 * i + 2) = 255 then -1 else S.2 (3 * i + 2)) := by
            refine lX12_isAsSeen_55 w1 ?_
            rw [t0, h0, x1, x2, nI_clamp (n := 3 * i + 1) (by omega), w3.2 _ (by omega), nI_1]
            have hsum : ((daysM U 0 t (supA N h v)).1 + 1).toInt = N.1.toInt + t + 1 := by
              rw [Int32.toInt_add, dd]
              unfold inI at hd
              show (N.1.toInt + t + 1 : Int).bmod _ = _
              rw [bm32 (by omega) (by omega)]
            refine ite_go (fun c => no (fun z => ?_)) (fun c => ⟨vp_in_nI (by omega) (by decide), ?_⟩)
            · have c' := i32_lt.mp c
              rw [hsum, e999] at c'
              have := z i (by omega) e'
              unfold fitK at this
              have := of_decide_eq_true (Bool.and_eq_true_iff.mp this).1
              omega
            · have c' := mt i32_lt.mpr c
              rw [hsum, e999] at c'
              have eC : daysC U 0 t (supA N h v) = daysM U 0 t (supA N h v) := daysC_M (N := supA N h v) hd t (by show N.1.toInt + t ≤ 999; omega)
              rw [a3]
              have hbt : ∀ q, (serveA U (daysM U 0 t (supA N h v)) 0).2.2.1 (S.2 (3 * i + 1)).toInt.toNat = some q → q.1 < 7 ∧ inI 0 99 q.2 := fun q hq => serveA_b _ _ hq
              refine m_eatenTaste w1 (by omega) (b2 _ (by omega)) (fun q hq => ⟨(hbt q hq).1, b3 _ q (by omega) hq⟩) ?_
              have fk : fitK U N S h v i = true ↔ taR true ((serveA U (daysM U 0 t (supA N h v)) 0).2.2.1 (S.2 (3 * i + 1)).toInt.toNat) = S.2 (3 * i + 2) := by
                unfold fitK tasteAt
                rw [e', a5, e', eC]
                have : N.1.toInt + (t : Int) < 999 := by omega
                simp [this]
              have et := et_ta (fun q hq => (hbt q hq).2) vt
              refine ite_go (fun cm => ih (i + 1) (by omega) (fun k k1 k2 => ?_)) (fun cm => no (fun z => cm (et.mpr (fk.mp (z i (by omega) e')))))
              by_cases ek : k = i
              · subst ek; exact fk.mpr (et.mp cm)
              · exact hk k (by omega) k2
          refine ite_go (fun c => ?_) (fun c => ⟨vp_in_nI (by omega) (by decide), ?_⟩)
          · rw [if_pos c] at main; exact main
          · rw [if_neg c] at main; exact main
        · by_cases ek : k = i
          · subst ek; exact absurd (by rw [a1, k2]) e
          · exact hk k (by omega) k2
    exact loop S.1 0 (by omega) (fun k hk => by omega)
  have wayI : ∀ v t e : Nat, 217 * nI v + 7 * nI t + nI e = nI (217 * v + 7 * t + e) := fun v t e => by
    have e1 : 217 * nI v = nI (217 * v) := pk_mul 217 v
    have e2 : 7 * nI t = nI (7 * t) := pk_mul 7 t
    rw [e1, e2, nI_add, nI_add]
  -- all flours
  have outer : ∀ (k v : Nat) (m : mm_M), v + k = 100 → offM wLf M m → m.1 164 57 = 1 → (∀ j, j < 43 → m.1 199 j = M.1 199 j) → asd (M.1 199) m → mK a.2.2.1.2.1 m → m.1 164 76 = nI (fitTo U N S h v).length → (∀ x, x < v → m.1 214 x = if fitA U N S h x then 1 else 0) → (∀ (x t e : Nat), x < v → t < 31 → e < U.2.1 → N.1.toInt + t < 999 → m.1 213 (217 * x + 7 * t + e) = etR (tasteAt U (supA N h x) t e)) → jX12_laysFits_11 (d + 11) (nI h) m K (nI h) (nI v) := by
    intro k
    induction k with
    | zero =>
      intro v m hk o g57 h199 A L p76 p214 p213
      obtain rfl : v = 100 := by omega
      obtain ⟨w1, w2, w3, w4⟩ := st m o
      refine lX12_laysFits_11 w1 (ipos (by decide) (m_takesBack w1 A (fun m5 o5 h5 q57 q59 => ?_)))
      have oo : offM (fun c j => wLf c j ∨ wTb c j) M m5 := offM_tr (offM_mono o (fun c j q => Or.inl q)) (offM_mono o5 (fun c j q => Or.inr q))
      refine hK m5 (by rw [oo.2.2]; exact hG) (offA_of oo (fun c j q => by unfold wLf wTk wE wA wTb at q; unfold ml; omega)) (MM_back hmm oo (fun c j q z => by unfold wLf wTk wE wA wTb at q; unfold k2 k4 k8 at z; omega) h5 (mK_off L o5 (fun c j q => by unfold wTb at q; omega)) q57 q59) ?_ (fun x hx => ?_) (fun x t e x1 x2 x3 x4 => ?_)
      · rw [o5.1 _ _ (by unfold wTb; omega)]; exact p76
      · rw [o5.1 _ _ (by unfold wTb; omega)]; exact p214 x hx
      · rw [o5.1 _ _ (by unfold wTb; omega)]; exact p213 x t e x1 x2 x3 x4
    | succ k ih =>
      intro v m hk o g57 h199 A L p76 p214 p213
      obtain ⟨w1, w2, w3, w4⟩ := st m o
      have vx := supA_v (h := h) vn (show v < 100 by omega)
      refine lX12_laysFits_11 w1 (ineg (nI_nlt (a := 99) (by omega) (by decide)) ?_)
      rw [mx2 h (by omega), nI_clamp (by omega)]
      refine ⟨vp_in_nI (by omega) (by decide), ?_⟩
      have o2 : offM (fun c j => c = 199 ∧ j < 43) m (mm_uI m 199 (2 + 3 * h) (nI v)) := offM_uI (by omega)
      have n2 : mN (supA N h v) (mm_uI m 199 (2 + 3 * h) (nI v)) := mN_uF (mN_eq d3N h199) hh
      generalize mm_uI m 199 (2 + 3 * h) (nI v) = m2 at o2 n2 ⊢
      have ho2 : offM wLf M m2 := offM_tr o (offM_mono o2 (fun c j q => by unfold wLf wTk wE; omega))
      -- the days
      have days : ∀ (q t : Nat) (m3 : mm_M) (z : Int32), t + q = 31 → offM wLf M m3 → m3.1 164 57 = 1 → mN (daysM U 0 t (supA N h v)) m3 → asd (M.1 199) m3 → mK a.2.2.1.2.1 m3 → m3.1 164 76 = nI (fitTo U N S h v).length → (∀ x, x < v → m3.1 214 x = if fitA U N S h x then 1 else 0) → (∀ (x s e : Nat), s < 31 → e < U.2.1 → N.1.toInt + s < 999 → (x < v ∨ (x = v ∧ s < t)) → m3.1 213 (217 * x + 7 * s + e) = etR (tasteAt U (supA N h x) s e)) → (z = 1 ∧ (∀ i, i < S.1 → (S.2 (3 * i)).toInt.toNat < t → fitK U N S h v i = true)) ∨ (z = 0 ∧ ¬ fitA U N S h v = true) → jX12_laysFits_33 (d + 11) (nI h) m3 K (nI h) (nI v) z (nI t) := by
        intro q
        induction q with
        | zero =>
          intro t m3 z ht o3 q57 n3 A3 L3 r76 r214 r213 hz
          obtain rfl : t = 31 := by omega
          obtain ⟨y1, y2, y3, y4⟩ := st m3 o3
          refine lX12_laysFits_33 y1 (ipos (by decide) (m_triesAnew y1 A3 (fun m4 o4 h4 => ⟨vp_in_nI (by omega) (by decide), ?_⟩)))
          rw [nI_clamp (by omega), nI_1]
          have ho4 : offM wLf M m4 := offM_tr o3 (offM_mono o4 (fun c j q => by unfold wN at q; unfold wLf wTk wE; omega))
          have f1 := fitTo_1 (U := U) (N := N) (S := S) (h := h) (n := v)
          have hlen := fitTo_len (U := U) (N := N) (S := S) (h := h) (n := v)
          have s4 : ∀ c j, ¬ (c = 199 ∧ j < 43) → m4.1 c j = m3.1 c j := fun c j q => o4.1 c j (by unfold wN; exact q)
          have nar1 : vp_nar .boolean 1 = 1 := rfl
          have nar0 : vp_nar .boolean 0 = 0 := rfl
          rcases hz with ⟨rfl, hz⟩ | ⟨rfl, hz⟩
          · have cf : fitA U N S h v = true := fitA_iff.mpr (fun i hi => hz i hi (by have := (nat i hi).2.1; omega))
            rw [if_pos cf] at f1
            refine ineg (by decide) ?_
            rw [nar1, uI_c (c := 164) (by decide), s4 164 76 (by omega), r76, nI_1]
            refine ih (v + 1) _ (by omega) (offM_tr ho4 (offM_tr (offM_uI (by unfold wLf; omega)) (offM_uI (by unfold wLf; omega)))) ?_ (fun j hj => ?_) (fun j hj => ?_) ?_ ?_ (fun x hx => ?_) (fun x s e x1 x2 x3 x4 => ?_)
            · rw [uI_j (by decide), uI_c (by decide), s4 164 57 (by omega)]; exact q57
            · rw [uI_c (by decide), uI_c (by decide)]; exact h4 j hj
            · rw [uI_c (by decide), uI_c (by decide), s4 200 j (by omega)]; exact A3 j hj
            · exact mK_off (mK_off (mK_off L3 o4 (fun c j q => by unfold wN at q; omega)) (offM_uI (W := fun c _ => c = 214) rfl) (fun c j q => by omega)) (offM_uI (W := fun c _ => c = 164) rfl) (fun c j q => by omega)
            · rw [uI_at, f1, List.length_append]; rfl
            · rw [uI_c (by decide)]
              by_cases e : x = v
              · subst e; rw [uI_at, if_pos cf]
              · rw [uI_j e, s4 214 x (by omega)]; exact r214 x (by omega)
            · rw [uI_c (by decide), uI_c (by decide), s4 213 _ (by omega)]
              exact r213 x s e x2 x3 x4 (by omega)
          · rw [if_neg hz] at f1
            refine ipos rfl ?_
            rw [nar0]
            refine ih (v + 1) _ (by omega) (offM_tr ho4 (offM_uI (by unfold wLf; omega))) ?_ (fun j hj => ?_) (fun j hj => ?_) ?_ ?_ (fun x hx => ?_) (fun x s e x1 x2 x3 x4 => ?_)
            · rw [uI_c (by decide), s4 164 57 (by omega)]; exact q57
            · rw [uI_c (by decide)]; exact h4 j hj
            · rw [uI_c (by decide), s4 200 j (by omega)]; exact A3 j hj
            · exact mK_off (mK_off L3 o4 (fun c j q => by unfold wN at q; omega)) (offM_uI (W := fun c _ => c = 214) rfl) (fun c j q => by omega)
            · rw [uI_c (by decide), s4 164 76 (by omega), f1]; exact r76
            · by_cases e : x = v
              · subst e; rw [uI_at, if_neg hz]
              · rw [uI_j e, s4 214 x (by omega)]; exact r214 x (by omega)
            · rw [uI_c (by decide), s4 213 _ (by omega)]
              exact r213 x s e x2 x3 x4 (by omega)
        | succ q ihq =>
          intro t m3 z ht o3 q57 n3 A3 L3 r76 r214 r213 hz
          obtain ⟨y1, y2, y3, y4⟩ := st m3 o3
          obtain ⟨vd, dd⟩ := daysM_v (rest := 0) vu vx hd t (by omega)
          refine lX12_laysFits_33 y1 (ineg (nI_nlt (a := 30) (by omega) (by decide)) ?_)
          refine m_dayGoes (rest := 0) (th := true) (L := a.2.2.1.2.1) y1 y2 n3 vu vd (by decide) y4 (by rw [q57]; rfl) L3 (fun m4 R4 => ?_)
          obtain ⟨o4, n4, b4, c4, -, k4⟩ := R4
          have k4 : mK a.2.2.1.2.1 m4 := k4
          have ho4 : offM wLf M m4 := offM_tr o3 (offM_mono o4 (fun c j q => by unfold wLf wTk; exact Or.inl (Or.inl q)))
          obtain ⟨x1, x2, x3, x4⟩ := st m4 ho4
          have s4 : ∀ c j, ¬ wE c j → m4.1 c j = m3.1 c j := fun c j q => o4.1 c j q
          have n4' : mN (daysM U 0 (t + 1) (supA N h v)) m4 := n4
          -- the tastes of the day are written down
          have ways : ∀ (z : Int32), (z = 1 ∧ (∀ i, i < S.1 → (S.2 (3 * i)).toInt.toNat < t + 1 → fitK U N S h v i = true)) ∨ (z = 0 ∧ ¬ fitA U N S h v = true) → ∀ (p e : Nat) (m5 : mm_M), e + p = U.2.1 → offM (fun c _ => c = 213) m4 m5 → (∀ (x s y : Nat), s < 31 → y < U.2.1 → N.1.toInt + s < 999 → (x < v ∨ (x = v ∧ s < t) ∨ (x = v ∧ s = t ∧ y < e)) → m5.1 213 (217 * x + 7 * s + y) = etR (tasteAt U (supA N h x) s y)) → jX12_laysFits_66 (d + 11) (nI h) m5 K (nI h) (nI v) z (nI t) (nI e) := by
            intro z hz p
            induction p with
            | zero =>
              intro e m5 he o5 hw
              have ho5 : offM wLf M m5 := offM_tr ho4 (offM_mono o5 (fun c j q => by unfold wLf; omega))
              obtain ⟨u1, u2, u3, u4⟩ := st m5 ho5
              refine lX12_laysFits_66 u1 (m_houseMany u1 ?_)
              rw [u2.2.1, nI_1 t]
              refine ipos (nI_le (by omega) (by omega)) (ihq (t + 1) m5 z (by omega) ho5 ?_ (mN_off n4' o5 (fun c j q => by omega)) ?_ (mK_off k4 o5 (fun c j q => by omega)) ?_ (fun x hx => ?_) (fun x s y s1 y1 s2 hx => hw x s y s1 y1 s2 (by omega)) hz)
              · rw [o5.1 _ _ (by omega), s4 _ _ (by unfold wE wA; omega)]; exact q57
              · exact asd_off (asd_off A3 o4 (fun c j q => by unfold wE wA at q; omega)) o5 (fun c j q => by omega)
              · rw [o5.1 _ _ (by omega), s4 _ _ (by unfold wE wA; omega)]; exact r76
              · rw [o5.1 _ _ (by omega), s4 _ _ (by unfold wE wA; omega)]; exact r214 x hx
            | succ p ihp =>
              intro e m5 he o5 hw
              have ho5 : offM wLf M m5 := offM_tr ho4 (offM_mono o5 (fun c j q => by unfold wLf; omega))
              obtain ⟨u1, u2, u3, u4⟩ := st m5 ho5
              refine lX12_laysFits_66 u1 (m_houseMany u1 ?_)
              rw [u2.2.1]
              refine ineg (nI_ge (by omega) (by omega)) (m_eatenTaste (o := (serveA U (daysM U 0 t (supA N h v)) 0).2.2.1 e) u1 (by omega) (by rw [o5.1 _ _ (by omega)]; exact b4 e (by omega)) (fun q hq => ⟨(serveA_b _ _ hq).1, by rw [o5.1 _ _ (by omega)]; exact c4 e q (by omega) hq⟩) ?_)
              rw [wayI, nI_clamp (by omega), nI_1 e]
              refine ⟨vp_in_nI (by omega) (by decide), ihp (e + 1) _ (by omega) (offM_tr o5 (offM_uI rfl)) (fun x s y s1 y1 s2 hx => ?_)⟩
              by_cases ee : 217 * x + 7 * s + y = 217 * v + 7 * t + e
              · obtain ⟨rfl, rfl, rfl⟩ : x = v ∧ s = t ∧ y = e := by omega
                rw [uI_at]
                unfold tasteAt
                rw [daysC_M (N := supA N h x) hd s (by show N.1.toInt + s ≤ 999; omega)]
              · rw [uI_j ee]; exact hw x s y s1 y1 s2 (by omega)
          have w0 : ∀ (x s y : Nat), s < 31 → y < U.2.1 → N.1.toInt + s < 999 → (x < v ∨ (x = v ∧ s < t) ∨ (x = v ∧ s = t ∧ y < 0)) → m4.1 213 (217 * x + 7 * s + y) = etR (tasteAt U (supA N h x) s y) := fun x s y s1 y1 s2 hx => by
            rw [s4 _ _ (by unfold wE wA; omega)]; exact r213 x s y s1 y1 s2 (by omega)
          rcases hz with ⟨rfl, hz⟩ | ⟨rfl, hz⟩
          · refine ineg (by decide) (seen v t m4 _ (by omega) (by omega) ho4 n4.1 b4 c4 (fun yes => ineg (by decide) (ways 1 (Or.inl ⟨rfl, fun i i1 i2 => ?_⟩) U.2.1 0 m4 (by omega) offM_rf w0)) (fun no => ipos rfl (ways 0 (Or.inr ⟨rfl, fun z => no (fun i i1 _ => fitA_iff.mp z i i1)⟩) U.2.1 0 m4 (by omega) offM_rf w0)))
            by_cases e : (S.2 (3 * i)).toInt.toNat = t
            · exact yes i i1 e
            · exact hz i i1 (by omega)
          · exact ipos rfl (ways 0 (Or.inr ⟨rfl, hz⟩) U.2.1 0 m4 (by omega) offM_rf w0)
      refine days 31 0 m2 1 (by omega) ho2 (by rw [o2.1 _ _ (by omega)]; exact g57) n2 (asd_off A o2 (fun c j q => by omega)) (mK_off L o2 (fun c j q => by omega)) (by rw [o2.1 _ _ (by omega)]; exact p76) (fun x hx => by rw [o2.1 _ _ (by omega)]; exact p214 x hx) (fun x s e s1 e1 s2 hx => ?_) (Or.inl ⟨rfl, fun i i1 i2 => by omega⟩)
      rw [o2.1 _ _ (by omega)]
      exact p213 x s e (by omega) s1 e1 s2
  refine outer 100 0 m1 (by omega) ho1 h57 (fun j _ => ?_) hA ?_ ?_ (fun x hx => by omega) (fun x t e hx => by omega)
  · rw [o1.1 _ _ (by unfold wPa; omega), e199]
  · exact mK_off (mK_off d3.2.1 o0 (fun c j q => by omega)) o1 (fun c j q => by unfold wPa at q; omega)
  · rw [o1.1 _ _ (by unfold wPa; omega)]; exact g76
