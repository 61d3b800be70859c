/-! ===== has, letter, house, hate, taste, kept ===== -/
def en (N : dN) (p q : Nat) : Nat := if 0 < N.2.2.2.2 p q then 1 else 0
def sum21 (N : dN) : Nat := en N 0 1 + en N 0 2 + en N 0 3 + en N 0 4 + en N 0 5 + en N 0 6 + en N 1 2 + en N 1 3 + en N 1 4 + en N 1 5 + en N 1 6 + en N 2 3 + en N 2 4 + en N 2 5 + en N 2 6 + en N 3 4 + en N 3 5 + en N 3 6 + en N 4 5 + en N 4 6 + en N 5 6
theorem feudP_len (N : dN) : (feudP N).length = sum21 N := by
  unfold feudP feudTo
  rw [← List.countP_eq_length_filter]
  simp only [List.range', List.countP_cons, List.countP_nil, feudB]
  simp only [Nat.reduceDiv, Nat.reduceMod, Nat.reduceAdd, Nat.reduceLT, and_self, and_false, false_and, decide_true, decide_false, Bool.true_and, Bool.false_and, decide_eq_true_eq, Bool.false_eq_true, if_false, Nat.add_zero, Nat.zero_add]
  unfold sum21 en
  omega
def cntE (N : dN) (h : Nat) : Nat := en N h 0 + en N h 1 + en N h 2 + en N h 3 + en N h 4 + en N h 5 + en N h 6
def cntT (N : dN) (h : Nat) : Nat → Nat
  | 0 => 0
  | k + 1 => cntT N h k + en N h k
theorem cntT_7 (N : dN) (h : Nat) : cntT N h 7 = cntE N h := by
  simp only [cntT, cntE]; omega
theorem cntT_le (N : dN) (h : Nat) : ∀ k, cntT N h k ≤ k
  | 0 => Nat.le_refl _
  | k + 1 => by
    have := cntT_le N h k
    show cntT N h k + en N h k ≤ k + 1
    have : en N h k ≤ 1 := by unfold en; split <;> omega
    omega
theorem c_countEnemies {d a h : Nat} {N : dN} {M : mm_M} {K : Int32 → mm_M → Prop} (ha : a ∈ mm_Sts) (hG : mm_G M.2.2) (hN : cN a N M) (hh : h < 7) (hK : K (nI (cntE N h)) M) : mm_CI mX9_countEnemies d [.ref a, .int (nI h)] M K := by
  have loop : ∀ (k i : Nat), i + k = 7 → jX9_countEnemies_4 d a (nI h) M K (nI h) (nI (cntT N h i)) (nI i) := by
    intro k
    induction k with
    | zero =>
      intro i hi
      obtain rfl : i = 7 := by omega
      rw [cntT_7]
      exact lX9_countEnemies_4 ha hG (ipos (by decide) hK)
    | succ k ih =>
      intro i hi
      have ih := ih (i + 1) (by omega)
      refine lX9_countEnemies_4 ha hG (ineg (lt7 (by omega)) (ineg (nI_pos (by omega)) (ineg (lt7 hh) ?_)))
      rw [ix8 h (by omega) i (by omega), nI_clamp (by omega), hN.2.2.2.2 h i hh (by omega), nI_1, nI_1]
      refine ⟨vp_in_nI (by omega) (by decide), ?_⟩
      have e : cntT N h (i + 1) = cntT N h i + en N h i := rfl
      rw [e] at ih
      unfold en at ih
      by_cases c : N.2.2.2.2 h i ≤ 0
      · rw [if_neg (Int32.not_lt.mpr c)] at ih
        exact ipos c ih
      · rw [if_pos (Int32.not_le.mp c)] at ih
        exact ineg c ih
  exact rX9_countEnemies ha hG (loop 7 0 (by omega))
def sumE (N : dN) : Nat → Nat
  | 0 => 0
  | k + 1 => sumE N k + cntE N k
theorem sumE_7 {U : dU} {N : dN} (vn : vN U N) : sumE N 7 = 2 * sum21 N := by
  have sy : ∀ p q, en N p q = en N q p := fun p q => by unfold en; rw [vn.2.2.2.2.2.1 p q]
  have dg : ∀ p, en N p p = 0 := fun p => by unfold en; rw [vn.2.2.2.2.2.2.1 p]; rfl
  simp only [sumE, cntE, sum21]
  rw [dg 0, dg 1, dg 2, dg 3, dg 4, dg 5, dg 6, sy 1 0, sy 2 0, sy 3 0, sy 4 0, sy 5 0, sy 6 0, sy 2 1, sy 3 1, sy 4 1, sy 5 1, sy 6 1, sy 3 2, sy 4 2, sy 5 2, sy 6 2, sy 4 3, sy 5 3, sy 6 3, sy 5 4, sy 6 4, sy 6 5]
  omega
theorem sumE_le (N : dN) : ∀ k, sumE N k ≤ 7 * k
  | 0 => Nat.le_refl _
  | k + 1 => by
    have := sumE_le N k
    have h7 := cntT_le N k 7
    rw [cntT_7] at h7
    show sumE N k + cntE N k ≤ _
    omega
theorem c_countFeuds {d a : Nat} {U : dU} {N : dN} {M : mm_M} {K : Int32 → mm_M → Prop} (ha : a ∈ mm_Sts) (hG : mm_G M.2.2) (hN : cN a N M) (vn : vN U N) (hK : K (nI (feudP N).length) M) : mm_CI mX9_countFeuds (d + 1) [.ref a] M K := by
  have loop : ∀ (k i : Nat), i + k = 7 → jX9_countFeuds_4 d a M K (nI (sumE N i)) (nI i) := by
    intro k
    induction k with
    | zero =>
      intro i hi
      obtain rfl : i = 7 := by omega
      refine lX9_countFeuds_4 ha hG (ipos (by decide) ?_)
      have h49 := sumE_le N 7
      have e : nI (sumE N 7) / 2 = nI (sumE N 7 / 2) := pk_div (d := 2) (by omega) (by decide) (by decide)
      rw [e, sumE_7 vn, Nat.mul_div_cancel_left _ (by decide), ← feudP_len]
      exact hK
    | succ k ih =>
      intro i hi
      refine lX9_countFeuds_4 ha hG (ineg (lt7 (by omega)) (c_countEnemies ha hG hN (by omega) ?_))
      rw [nI_1, nI_add]
      exact ih (i + 1) (by omega)
  exact rX9_countFeuds ha hG (loop 7 0 (by omega))
def p1 (k : Nat) : Nat := [0, 0, 0, 0, 0, 0, 1, 1, 1, 1, 1, 2, 2, 2, 2, 3, 3, 3, 4, 4, 5].getD k 0
def p2 (k : Nat) : Nat := [1, 2, 3, 4, 5, 6, 2, 3, 4, 5, 6, 3, 4, 5, 6, 4, 5, 6, 5, 6, 6].getD k 0
theorem p12 : ∀ k, k < 21 → p1 k < p2 k ∧ p2 k < 7 ∧ pr (p1 k) (p2 k) = k := by decide +kernel
def cntF (N : dN) : Nat → Nat
  | 0 => 0
  | k + 1 => cntF N k + en N (p1 k) (p2 k)
theorem cntF_21 (N : dN) : cntF N 21 = sum21 N := by
  simp only [cntF, sum21, p1, p2, List.getD_cons_zero, List.getD_cons_succ]
  omega
theorem m_feudMany {d : Nat} {N : dN} {M : mm_M} {K : Int32 → mm_M → Prop} (hG : mm_G M.2.2) (hN : mN N M) (hK : K (nI (feudP N).length) M) : mm_CI mX12_feudMany d [.ref 164] M K := by
  have loop : ∀ (k i : Nat), i + k = 21 → jX12_feudMany_4 d M K (nI (cntF N i)) (nI i) := by
    intro k
    induction k with
    | zero =>
      intro i hi
      obtain rfl : i = 21 := by omega
      rw [cntF_21, ← feudP_len]
      exact lX12_feudMany_4 hG (ipos (by decide) hK)
    | succ k ih =>
      intro i hi
      have ih := ih (i + 1) (by omega)
      obtain ⟨q1, q2, q3⟩ := p12 i (by omega)
      have hv := hN.2.2.2.2 (p1 i) (p2 i) (by omega) q2 (by omega)
      rw [q3] at hv
      refine lX12_feudMany_4 hG (ineg (nI_ge (b := 21) (by omega) (by decide)) ?_)
      rw [n22, nI_clamp (by omega), hv, nI_1, nI_1]
      refine ⟨vp_in_nI (by omega) (by decide), ?_⟩
      have e : cntF N (i + 1) = cntF N i + en N (p1 i) (p2 i) := rfl
      rw [e] at ih
      unfold en at ih
      by_cases c : N.2.2.2.2 (p1 i) (p2 i) ≤ 0
      · rw [if_neg (Int32.not_lt.mpr c)] at ih
        exact ipos c ih
      · rw [if_pos (Int32.not_le.mp c)] at ih
        exact ineg c ih
  exact rX12_feudMany hG (loop 21 0 (by omega))
theorem m_enemyMany {d h : Nat} {U : dU} {N : dN} {M : mm_M} {K : Int32 → mm_M → Prop} (hG : mm_G M.2.2) (hU : mU U M) (hN : mN N M) (vu : vU U) (vn : vN U N) (hh : h < 7) (hK : K (nI (cntE N h)) M) : mm_CI mX12_enemyMany (d + 3) [.ref 164, .int (nI h)] M K := by
  have hu7 := vu.2.1
  have tail : ∀ k i, U.2.1 ≤ i → cntT N h (i + k) = cntT N h i := by
    intro k
    induction k with
    | zero => intro i _; rfl
    | succ k ih =>
      intro i hi
      rw [show i + (k + 1) = (i + 1) + k by omega, ih (i + 1) (by omega)]
      show cntT N h i + en N h i = _
      unfold en
      rw [if_neg (hate0 vn (by omega))]
      rfl
  have loop : ∀ (k i : Nat), i + k = U.2.1 → jX12_enemyMany_4 (d + 2) (nI h) M K (nI h) (nI (cntT N h i)) (nI i) := by
    intro k
    induction k with
    | zero =>
      intro i hi
      refine lX12_enemyMany_4 hG (m_houseMany hG ?_)
      rw [hU.2.1]
      have := tail (7 - i) i (by omega)
      rw [show i + (7 - i) = 7 by omega, cntT_7] at this
      rw [← this]
      exact ipos (nI_le (by omega) (by omega)) hK
    | succ k ih =>
      intro i hi
      have ih := ih (i + 1) (by omega)
      refine lX12_enemyMany_4 hG (m_houseMany hG ?_)
      rw [hU.2.1]
      refine ineg (nI_ge (by omega) (by omega)) (m_areEnemies (U := U) hG hN vn hh (by omega) ?_)
      rw [nI_1, nI_1]
      have e : cntT N h (i + 1) = cntT N h i + en N h i := rfl
      rw [e] at ih
      unfold en at ih
      by_cases c : 0 < N.2.2.2.2 h i
      · rw [if_pos c] at ih ⊢
        exact ineg (by decide) ih
      · rw [if_neg c] at ih ⊢
        exact ipos rfl ih
  exact rX12_enemyMany hG (loop U.2.1 0 (by omega))
/-! flour together -/
def flS (N : dN) (s : Int32) (h : Nat) : Int32 := if N.2.1.testBit h then s + N.2.2.1 h else s
def flA (N : dN) : Int32 := (List.range' 0 7).foldl (flS N) 0
theorem c_flourTogether {d a : Nat} {N : dN} {M : mm_M} {K : Int32 → mm_M → Prop} (ha : a ∈ mm_Sts) (hG : mm_G M.2.2) (hN : cN a N M) (hb : N.2.1 < 128) (hK : K (flA N) M) : mm_CI mX9_flourTogether (d + 1) [.ref a] M K := by
  have loop : ∀ (k i : Nat) (s : Int32), i + k = 7 → (List.range' i k).foldl (flS N) s = flA N → jX9_flourTogether_4 d a M K s (nI i) := by
    intro k
    induction k with
    | zero =>
      intro i s hi h
      obtain rfl : i = 7 := by omega
      have h : s = flA N := h
      rw [h]
      exact lX9_flourTogether_4 ha hG (ipos (by decide) hK)
    | succ k ih =>
      intro i s hi h
      rw [List.range'_succ, List.foldl_cons] at h
      refine lX9_flourTogether_4 ha hG (ineg (lt7 (by omega)) (c_isThere ha hG hN.2.1 hb (by omega) ?_))
      rw [nI_clamp (by omega), hN.2.2.1 i (by omega), nI_1]
      unfold flS at h
      by_cases c : N.2.1.testBit i = true
      · rw [if_pos c] at h ⊢
        exact ineg (by decide) ⟨vp_in_nI (by omega) (by decide), ih (i + 1) _ (by omega) h⟩
      · rw [if_neg c] at h ⊢
        exact ipos rfl (ih (i + 1) _ (by omega) h)
  exact rX9_flourTogether ha hG (loop 7 0 0 (by omega) rfl)
theorem m_flourAll {d : Nat} {U : dU} {N : dN} {M : mm_M} {K : Int32 → mm_M → Prop} (hG : mm_G M.2.2) (hU : mU U M) (hN : mN N M) (vu : vU U) (vn : vN U N) (hK : K (flA N) M) : mm_CI mX12_flourAll (d + 1) [.ref 164] M K := by
  have hu7 := vu.2.1
  have loop : ∀ (k i : Nat) (s : Int32), i + k = 7 → (List.range' i k).foldl (flS N) s = flA N → jX12_flourAll_4 d M K s (nI i) := by
    intro k
    induction k with
    | zero =>
      intro i s hi h
      have h : s = flA N := h
      rw [h]
      refine lX12_flourAll_4 hG (m_houseMany hG ?_)
      rw [hU.2.1]
      exact ipos (nI_le (by omega) (by omega)) hK
    | succ k ih =>
      intro i s hi h
      refine lX12_flourAll_4 hG (m_houseMany hG ?_)
      rw [hU.2.1]
      by_cases hx : U.2.1 ≤ i
      · rw [fold_id] at h
        · rw [h]; exact ipos (nI_le hx (by omega)) hK
        · intro j hj
          have := range_ge hj
          unfold flS
          rw [if_neg]
          intro q
          have := bit_lt vn q
          omega
      · rw [List.range'_succ, List.foldl_cons] at h
        refine ineg (nI_ge (by omega) (by omega)) (m_isThere hG hN (by omega) ?_)
        rw [nI_1]
        unfold flS at h
        by_cases c : N.2.1.testBit i = true
        · rw [if_pos c] at h ⊢
          exact ineg (by decide) (m_flourOf hG hN (by omega) (ih (i + 1) _ (by omega) h))
        · rw [if_neg c] at h ⊢
          exact ipos rfl (ih (i + 1) _ (by omega) h)
  exact rX12_flourAll hG (loop 7 0 0 (by omega) rfl)
theorem st37 : 37 ∈ mm_Sts := by decide +kernel
theorem st42 : 42 ∈ mm_Sts := by decide +kernel
theorem c_toldLoaves {d a B : Nat} {L : List dQ} {M : mm_M} {K : Int32 → mm_M → Prop} (ha : a ∈ mm_Sts) (hG : mm_G M.2.2) (hL : cK a L B M) (hB : B < 2 ^ 30) (hK : K (nI L.length) M) : mm_CI mX9_toldLoaves (d + 1) [.ref a] M K := by
  obtain ⟨n, h1, h2, h3, -⟩ := hL
  refine rX9_toldLoaves ha hG ?_
  rw [h1]
  rw [h3] at hK
  by_cases c : 40 < n
  · have l : (40 : Int32) < nI n := nI_lt (a := 40) c (by omega)
    rw [if_pos l]
    rw [Nat.min_eq_right (by omega)] at hK
    exact hK
  · have l : ¬ (40 : Int32) < nI n := nI_nlt (a := 40) (b := n) (by omega) (by decide)
    rw [if_neg l]
    rw [Nat.min_eq_left (by omega)] at hK
    exact hK
/-- the abstract answer of has -/
def hasA (a : dA) (x : Int32) : Int32 := if x = 0 then a.2.1.2.1.1 else if x = 1 then nI a.2.1.2.1.2.1 else if x = 2 then a.2.2.1.1.1 else if x = 3 then nI (pop a.2.2.1.1.2.1) else if x = 4 then nI (feudP a.2.2.1.1).length else if x = 5 then flA a.2.2.1.1 else if x = 6 then nI a.2.2.1.2.1.length else if x = 7 then nI a.2.2.2.1.1 else if x = 8 then nI a.2.2.1.2.2.length else -1
theorem ite_go {c A B : Prop} [Decidable c] (h1 : c → A) (h2 : ¬ c → B) : if c then A else B := by
  by_cases h : c
  · rw [if_pos h]; exact h1 h
  · rw [if_neg h]; exact h2 h
theorem s4 : lw_S4 Inv := by
  intro u M x1 hu hG hI
  refine stepI hI (fun a hv hc hm => ⟨hasA a x1, a, VV_up hv, ?_, fun m hGm hmm => ?_⟩)
  · have ok : ∀ z, z = hasA a x1 → cQ u a (hasA a x1) M z M := fun z hz => by rw [hz]; exact cQ_same hc
    obtain ⟨c1, c2, c3, c4, c5, c6⟩ := hc
    have vu := hv.2.1.1
    have vn := hv.2.2.1.1.1
    have hth := vN_lt vu vn
    refine rX11_has hG ?_
    refine ite_go (fun e => ⟨_, c2.1, c2.2.2.2.1, ok _ (by rw [c2.2.2.2.2.2.1, e]; rfl)⟩) (fun n0 => ?_)
    refine ite_go (fun e => ⟨_, c2.1, c2.2.2.2.1, ok _ (by rw [c2.2.2.2.2.2.2.1, e]; rfl)⟩) (fun n1 => ?_)
    refine ite_go (fun e => ok _ (by rw [c3.1.1, e]; rfl)) (fun n2 => ?_)
    refine ite_go (fun e => ?_) (fun n3 => ?_)
    · rw [c3.1.2.1]
      exact c_bitCount hG (by omega) (ok _ (by rw [e]; rfl))
    refine ite_go (fun e => c_countFeuds st37 hG c3.1 vn (ok _ (by rw [e]; rfl))) (fun n4 => ?_)
    refine ite_go (fun e => c_flourTogether st37 hG c3.1 hth (ok _ (by rw [e]; rfl))) (fun n5 => ?_)
    refine ite_go (fun e => c_toldLoaves st37 hG c3.2.1 (by omega) (ok _ (by rw [e]; rfl))) (fun n6 => ?_)
    refine ite_go (fun e => ok _ (by rw [c4.1, e]; rfl)) (fun n7 => ?_)
    refine ite_go (fun e => ok _ (by rw [c3.2.2.2.1, e]; rfl)) (fun n8 => ok _ ?_)
    unfold hasA
    rw [if_neg n0, if_neg n1, if_neg n2, if_neg n3, if_neg n4, if_neg n5, if_neg n6, if_neg n7, if_neg n8]
  · have ok : ∀ z, z = hasA a x1 → mQ a (hasA a x1) m z m := fun z hz => by rw [hz]; exact mQ_same hmm
    obtain ⟨c1, c2, c3, c4, c5⟩ := hmm
    have vu := hv.2.1.1
    have vn := hv.2.2.1.1.1
    have hth := vN_lt vu vn
    have t0 : (0 : Int32).toNatClampNeg = 0 := rfl
    have t2 : (2 : Int32).toNatClampNeg = 2 := rfl
    have t43 : (43 : Int32).toNatClampNeg = 43 := rfl
    refine rX12_has hGm ?_
    rw [t0, t2, t43]
    refine ite_go (fun e => ok _ (by rw [c2.2.1.1, e]; rfl)) (fun n0 => ?_)
    refine ite_go (fun e => m_houseMany hGm (ok _ (by rw [c2.2.1.2.1, e]; rfl))) (fun n1 => ?_)
    refine ite_go (fun e => ok _ (by rw [c3.1.1, e]; rfl)) (fun n2 => ?_)
    refine ite_go (fun e => m_thereSet hGm c2.2.1 c3.1 vu vn (m_bits hGm (by omega) (ok _ (by rw [e]; rfl)))) (fun n3 => ?_)
    refine ite_go (fun e => m_feudMany hGm c3.1 (ok _ (by rw [e]; rfl))) (fun n4 => ?_)
    refine ite_go (fun e => m_flourAll hGm c2.2.1 c3.1 vu vn (ok _ (by rw [e]; rfl))) (fun n5 => ?_)
    refine ite_go (fun e => ok _ (by rw [c3.2.1.1, e]; rfl)) (fun n6 => ?_)
    refine ite_go (fun e => ok _ (by rw [c4.1, e]; rfl)) (fun n7 => ?_)
    refine ite_go (fun e => ok _ (by rw [c3.2.2.1, e]; rfl)) (fun n8 => ok _ ?_)
    unfold hasA
    rw [if_neg n0, if_neg n1, if_neg n2, if_neg n3, if_neg n4, if_neg n5, if_neg n6, if_neg n7, if_neg n8]
