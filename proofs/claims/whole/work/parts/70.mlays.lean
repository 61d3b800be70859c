/-! ===== laysTable, laysRow ===== -/
/-- one cell of the table: the bakers from b on -/
theorem m_cell {d e busy x : Nat} {U : dU} {N : dN} {M : mm_M} {K : mm_M → Prop} (hG : mm_G M.2.2) (hU : mU U M) (hN : mN N M) (vu : vU U) (vn : vN U N) (he : e < U.2.1) (hb : busy < 128) (hx : x < 2 ^ 21) (h66 : M.1 164 66 = nI x) (hT : mTab (svX U N x) (hcN N) (e + 1) M)
    (hK : jX12_laysTable_42 (d + 4) (mm_uI (mm_uI M 205 (128 * e + busy) (nI (tb (svX U N x) (hcN N) (7 - e) busy).1)) 206 (128 * e + busy) (nI (tb (svX U N x) (hcN N) (7 - e) busy).2)) K (nI e) (nI (busy + 1))) : ∀ (k b : Nat) (acc : Nat × Nat), b + k = 7 → b ≤ U.2.1 → okq (7 - e) acc → (List.range' b k).foldl (tbS (svX U N x) (hcN N) e busy (tb (svX U N x) (hcN N) (6 - e))) acc = tb (svX U N x) (hcN N) (7 - e) busy → jX12_laysTable_57 (d + 4) M K (nI e) (nI busy) (nI acc.1) (nI acc.2) (nI b) := by
  have hu7 := vu.2.1
  have h9 := hcN_9 vn
  have fin : ∀ acc : Nat × Nat, acc = tb (svX U N x) (hcN N) (7 - e) busy → vp_in ((128 * nI e) + nI busy) 1024 ∧ vp_in ((128 * nI e) + nI busy) 1024 ∧ jX12_laysTable_42 (d + 4) (mm_uI (mm_uI M 205 ((128 * nI e) + nI busy).toNatClampNeg (nI acc.1)) 206 ((128 * nI e) + nI busy).toNatClampNeg (nI acc.2)) K (nI e) (nI busy + 1) := by
    intro acc ha
    rw [ix128, nI_clamp (by omega), nI_1, ha]
    exact ⟨vp_in_nI (by omega) (by decide), vp_in_nI (by omega) (by decide), hK⟩
  intro k
  induction k with
  | zero =>
    intro b acc hb7 hbs ha hf
    refine lX12_laysTable_57 hG (m_houseMany hG ?_)
    rw [hU.2.1]
    exact ipos (nI_le (by omega) (by omega)) (fin acc hf)
  | succ k ih =>
    intro b acc hb7 hbs ha hf
    refine lX12_laysTable_57 hG (m_houseMany hG ?_)
    rw [hU.2.1]
    by_cases hx2 : U.2.1 ≤ b
    · refine ipos (nI_le hx2 (by omega)) (fin acc ?_)
      rw [fold_id] at hf
      · exact hf
      · intro j hj
        have hji := range_ge hj
        unfold tbS
        rw [if_neg]
        intro q
        have := (svX_lt vn (Bool.and_eq_true_iff.mp q).1).2.1
        omega
    · refine ineg (nI_ge (by omega) (by omega)) ?_
      rw [List.range'_succ, List.foldl_cons] at hf
      rw [nI_1]
      refine m_manyBy hG hU hN vn (by omega) (by omega) hb hx h66 hT ?_
      have ok := tb_ok (sv := svX U N x) h9 (6 - e)
      have okc : okq (7 - e) (tbC (hcN N) e busy (tb (svX U N x) (hcN N) (6 - e)) b) := by
        have := tbC_ok (busy := busy) (b := b) (e := e) h9 ok
        rw [show 6 - e + 1 = 7 - e by omega] at this; exact this
      unfold tbS at hf
      by_cases c : (svX U N x e b && !(busy.testBit b)) = true
      · rw [if_pos c]
        rw [if_pos c] at hf
        have hne := (svX_lt vn (Bool.and_eq_true_iff.mp c).1).2.2
        generalize hq : tbC (hcN N) e busy (tb (svX U N x) (hcN N) (6 - e)) b = q at hf okc
        have b1 : q.1 ≤ 7 ∧ q.2 ≤ 693 := by unfold okq at okc; omega
        have b2 : acc.1 ≤ 7 ∧ acc.2 ≤ 693 := by unfold okq at ha; omega
        by_cases c1 : q.1 < acc.1
        · refine ipos (nI_lt c1 (by omega)) ?_
          rw [if_neg (by unfold better; rw [decide_eq_true_iff]; omega)] at hf
          exact ih (b + 1) acc (by omega) (by omega) ha hf
        · refine ineg (nI_nlt (by omega) (by omega)) (ineg (nI_nm1 (by omega)) ?_)
          refine m_hateBy (sv := svX U N x) hG hN vn (by omega) (by omega) hb hne hT ?_
          rw [hq]
          by_cases c2 : q.1 = acc.1
          · refine ipos (by rw [c2]) ?_
            by_cases c3 : q.2 < acc.2
            · refine ipos (nI_lt c3 (by omega)) ?_
              rw [if_pos (by unfold better; rw [decide_eq_true_iff]; omega)] at hf
              exact ih (b + 1) q (by omega) (by omega) okc hf
            · refine ineg (nI_nlt (by omega) (by omega)) ?_
              rw [if_neg (by unfold better; rw [decide_eq_true_iff]; omega)] at hf
              exact ih (b + 1) acc (by omega) (by omega) ha hf
          · refine ineg (fun z => c2 ((nI_eq (by omega) (by omega)).mp z)) ?_
            rw [if_pos (by unfold better; rw [decide_eq_true_iff]; omega)] at hf
            exact ih (b + 1) q (by omega) (by omega) okc hf
      · rw [if_neg c]
        rw [if_neg c] at hf
        have b2 : acc.1 ≤ 7 := by unfold okq at ha; omega
        refine ipos (i32_lt.mpr (by rw [nI_toInt (by omega)]; show (-1 : Int) < _; omega)) ?_
        exact ih (b + 1) acc (by omega) (by omega) ha hf
def wL (c _j : Nat) : Prop := c = 205 ∨ c = 206
theorem m_lays_in {d e x : Nat} {U : dU} {N : dN} {M : mm_M} {K : mm_M → Prop} (hG : mm_G M.2.2) (hU : mU U M) (hN : mN N M) (vu : vU U) (vn : vN U N) (he : e < U.2.1) (hx : x < 2 ^ 21) (h66 : M.1 164 66 = nI x) : ∀ (k b : Nat) (m : mm_M), b + k = 128 → offM wL M m → mTab (svX U N x) (hcN N) (e + 1) m → (∀ z, z < b → m.1 205 (128 * e + z) = nI (tb (svX U N x) (hcN N) (7 - e) z).1 ∧ m.1 206 (128 * e + z) = nI (tb (svX U N x) (hcN N) (7 - e) z).2) → (∀ m', offM wL M m' → mTab (svX U N x) (hcN N) e m' → jX12_laysTable_36 (d + 4) m' K (nI e + (-1))) → jX12_laysTable_42 (d + 4) m K (nI e) (nI b) := by
  have hu7 := vu.2.1
  have h9 := hcN_9 vn
  intro k
  induction k with
  | zero =>
    intro b m hb ho hT h hK
    obtain rfl : b = 128 := by omega
    refine lX12_laysTable_42 (by rw [ho.2.2]; exact hG) (ipos (by decide) (hK m ho (fun e' z q1 q2 q3 => ?_)))
    by_cases c : e' = e
    · subst c; exact h z q3
    · exact hT e' z (by omega) q2 q3
  | succ k ih =>
    intro b m hb ho hT h hK
    have hGm : mm_G m.2.2 := by rw [ho.2.2]; exact hG
    have hUm : mU U m := mU_off hU ho (fun c j q => by unfold wL at q; omega)
    have hNm : mN N m := mN_off hN ho (fun c j q => by unfold wL at q; omega)
    refine lX12_laysTable_42 hGm (ineg (nI_ge (b := 128) (by omega) (by decide)) ?_)
    refine lX12_laysTable_57 hGm (m_houseMany hGm ?_)
    rw [hUm.2.1]
    refine ineg (fun q => ?_) ?_
    · have := i32_le.mp q
      rw [nI_toInt (by omega)] at this
      have e1 : (-1 : Int32).toInt = -1 := rfl
      omega
    · refine m_manyNone hGm (by omega) (by omega) hT ?_
      have ok := tb_ok (sv := svX U N x) h9 (6 - e) b
      have ok' : okq (7 - e) (tb (svX U N x) (hcN N) (6 - e) b) := by unfold okq at *; omega
      have b1 : (tb (svX U N x) (hcN N) (6 - e) b).1 ≤ 7 := by unfold okq at ok; omega
      refine ineg (fun q => ?_) (ineg (nI_nm1 (by omega)) ?_)
      · have := i32_lt.mp q
        rw [nI_toInt (by omega)] at this
        have e1 : (-1 : Int32).toInt = -1 := rfl
        omega
      · refine m_hateNone hGm (by omega) (by omega) hT ?_
        refine ineg (nI_nm1 (by omega)) ?_
        have e0 : (-1 : Int32) + 1 = nI 0 := by decide
        rw [e0]
        refine m_cell hGm hUm hNm vu vn he (by omega) hx (by rw [ho.1 _ _ (by unfold wL; omega)]; exact h66) hT ?_ 7 0 (tb (svX U N x) (hcN N) (6 - e) b) (by omega) (by omega) ok' ?_
        · refine ih (b + 1) _ (by omega) (offM_tr ho (offM_tr (offM_uI (Or.inl rfl)) (offM_uI (Or.inr rfl)))) (fun e' z q1 q2 q3 => ?_) (fun z hz => ?_) hK
          · rw [uI_c (c := 205) (by decide), uI_j (a := 205) (by omega), uI_j (a := 206) (by omega), uI_c (c := 206) (by decide)]
            exact hT e' z q1 q2 q3
          · by_cases c : z = b
            · subst c
              rw [uI_c (c := 205) (by decide), uI_at, uI_at]
              exact ⟨rfl, rfl⟩
            · rw [uI_c (c := 205) (by decide), uI_j (a := 205) (by omega), uI_j (a := 206) (by omega), uI_c (c := 206) (by decide)]
              exact h z (by omega)
        · have : tb (svX U N x) (hcN N) (6 - e + 1) b = (List.range' 0 7).foldl (tbS (svX U N x) (hcN N) (6 - (6 - e)) b (tb (svX U N x) (hcN N) (6 - e))) (tb (svX U N x) (hcN N) (6 - e) b) := rfl
          rw [show 6 - e + 1 = 7 - e by omega, show 6 - (6 - e) = e by omega] at this
          exact this.symm
theorem m_lays_out {d x : Nat} {U : dU} {N : dN} {M : mm_M} {K : mm_M → Prop} (hG : mm_G M.2.2) (hU : mU U M) (hN : mN N M) (vu : vU U) (vn : vN U N) (hx : x < 2 ^ 21) (h66 : M.1 164 66 = nI x) (hK : ∀ m, offM wL M m → mTab (svX U N x) (hcN N) 0 m → K m) : ∀ (i : Nat) (m : mm_M), i ≤ U.2.1 → offM wL M m → mTab (svX U N x) (hcN N) i m → jX12_laysTable_36 (d + 4) m K (nI i + (-1)) := by
  have hu7 := vu.2.1
  intro i
  induction i with
  | zero =>
    intro m hi ho hT
    exact lX12_laysTable_36 (by rw [ho.2.2]; exact hG) (ipos (by decide) (hK m ho hT))
  | succ i ih =>
    intro m hi ho hT
    rw [pk_m1]
    refine lX12_laysTable_36 (by rw [ho.2.2]; exact hG) (ineg (nI_pos (by omega)) ?_)
    exact m_lays_in hG hU hN vu vn (by omega) hx h66 128 0 m (by omega) ho hT (fun z hz => by omega) (fun m' o' T' => ih m' (by omega) o' T')
theorem m_laysTable {d x : Nat} {U : dU} {N : dN} {M : mm_M} {K : mm_M → Prop} (hG : mm_G M.2.2) (hU : mU U M) (hN : mN N M) (vu : vU U) (vn : vN U N) (hx : x < 2 ^ 21) (h66 : M.1 164 66 = nI x) (hK : ∀ m, offM wL M m → mTab (svX U N x) (hcN N) 0 m → K m) : mm_CV mX12_laysTable (d + 5) [.ref 164] M K := by
  have hu7 := vu.2.1
  refine rX12_laysTable hG ?_
  have clr : ∀ (k i : Nat) (m : mm_M), i + k = 1024 → offM wL M m → (∀ j, j < i → m.1 205 j = 0 ∧ m.1 206 j = 0) → jX12_laysTable_2 (d + 4) m K (nI i) := by
    intro k
    induction k with
    | zero =>
      intro i m hi ho h
      obtain rfl : i = 1024 := by omega
      have hGm : mm_G m.2.2 := by rw [ho.2.2]; exact hG
      refine lX12_laysTable_2 hGm (ipos (by decide) (m_houseMany hGm ?_))
      rw [(mU_off hU ho (fun c j q => by unfold wL at q; omega)).2.1]
      have : nI U.2.1 - 1 = nI U.2.1 + (-1) := Int32.sub_eq_add_neg _ _
      rw [this]
      refine m_lays_out hG hU hN vu vn hx h66 hK U.2.1 m (Nat.le_refl _) ho (fun e z q1 q2 q3 => ?_)
      rw [tb_zero (hs := U.2.1) (fun e b q => ?_) (7 - e) z (by omega)]
      · exact h (128 * e + z) (by omega)
      · apply Bool.eq_false_iff.mpr
        intro w
        have := (svX_lt vn w).1
        omega
    | succ k ih =>
      intro i m hi ho h
      refine lX12_laysTable_2 (by rw [ho.2.2]; exact hG) (ineg (nI_ge (b := 1024) (by omega) (by decide)) ⟨vp_in_nI (by omega) (by decide), vp_in_nI (by omega) (by decide), ?_⟩)
      rw [nI_1, nI_clamp (by omega)]
      refine ih (i + 1) _ (by omega) (offM_tr ho (offM_tr (offM_uI (Or.inl rfl)) (offM_uI (Or.inr rfl)))) (fun j hj => ?_)
      by_cases c : j = i
      · subst c
        rw [uI_c (c := 205) (by decide), uI_at, uI_at]
        exact ⟨rfl, rfl⟩
      · rw [uI_c (c := 205) (by decide), uI_j (a := 205) c, uI_j (a := 206) c, uI_c (c := 206) (by decide)]
        exact h j (by omega)
  exact clr 1024 0 M (by omega) offM_rf (fun j hj => by omega)
