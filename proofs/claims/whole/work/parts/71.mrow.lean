/-! ===== laysRow ===== -/
theorem m_row_find {d e busy : Nat} {U : dU} {N : dN} {M : mm_M} {K : mm_M → Prop} (hG : mm_G M.2.2) (hU : mU U M) (hN : mN N M) (vu : vU U) (vn : vN U N) (he : e < U.2.1) (hb : busy < 128) (h66 : M.1 164 66 = nI 0) (hT : mTab (svX U N 0) (hcN N) 0 M)
    (hK : jX12_laysRow_4 (d + 4) (mm_uI M 207 e (pickR (fbA (svX U N 0) (hcN N) (6 - e) busy))) K (nI (match fbA (svX U N 0) (hcN N) (6 - e) busy with | none => busy | some b => busy ||| 2 ^ b)) (nI (e + 1))) : jX12_laysRow_14 (d + 4) M K (nI busy) (nI e) (-1) := by
  have hu7 := vu.2.1
  have h9 := hcN_9 vn
  have hT1 : mTab (svX U N 0) (hcN N) (e + 1) M := fun e' z q1 q2 q3 => hT e' z (by omega) q2 q3
  have hk : 7 - e = (6 - e) + 1 := by omega
  have hk3 : 6 - (6 - e) = e := by omega
  obtain ⟨t1, t2⟩ := hT e busy (by omega) (by omega) hb
  rw [hk] at t1 t2
  have l0 := tb_le (sv := svX U N 0) h9 (k := 6 - e) (busy := busy) (by omega)
  have l1 := tb_le (sv := svX U N 0) h9 (k := 6 - e + 1) (busy := busy) (by omega)
  rcases fbA_is (sv := svX U N 0) (hc := hcN N) (k := 6 - e) (busy := busy) with ⟨q1, q2⟩ | ⟨b, q1, q2, q3, q4, q5⟩
  · rw [q1] at hK
    refine lX12_laysRow_14 hG (m_manyNone hG (by omega) hb hT1 ?_)
    rw [ix128, nI_clamp (n := 128 * e + busy) (by omega), t1]
    refine ⟨vp_in_nI (by omega) (by decide), ipos (by rw [q2]) (m_hateNone hG (by omega) hb hT1 ⟨vp_in_nI (by omega) (by decide), ipos (by rw [t2, q2]) ⟨vp_in_nI (by omega) (by decide), ipos rfl ?_⟩⟩)⟩
    rw [nI_clamp (n := e) (by omega), nI_1]
    exact hK
  · rw [q1] at hK
    have loop : ∀ (k j : Nat), j + k = b → jX12_laysRow_14 (d + 4) M K (nI busy) (nI e) (nI j) := by
      intro k
      induction k with
      | zero =>
        intro j hj
        obtain rfl : j = b := by omega
        obtain ⟨p1, p2, p3⟩ := fbP_of q4
        rw [hk3] at p1 p3
        have hne := (svX_lt vn p1).2.2
        refine lX12_laysRow_14 hG (m_manyBy hG hU hN vn (by omega) (by omega) hb (by decide) h66 hT1 ?_)
        rw [ix128, nI_clamp (n := 128 * e + busy) (by omega), t1, p1, p2, if_pos (show (true && !false) = true from rfl), p3]
        refine ⟨vp_in_nI (by omega) (by decide), ipos rfl (m_hateBy (sv := svX U N 0) hG hN vn (by omega) (by omega) hb hne hT1 ⟨vp_in_nI (by omega) (by decide), ipos (by rw [t2, p3]) ⟨vp_in_nI (by omega) (by decide), ineg (nI_nm1 (by omega)) ?_⟩⟩)⟩
        rw [nI_clamp (n := e) (by omega), nI_1, (bit_or busy hb j q3).1]
        exact hK
      | succ k ih =>
        intro j hj
        have hj7 : j < 7 := by omega
        have hf := q5 j (by omega)
        refine lX12_laysRow_14 hG (m_manyBy hG hU hN vn (by omega) hj7 hb (by decide) h66 hT1 ?_)
        rw [ix128, nI_clamp (n := 128 * e + busy) (by omega), t1, nI_1 j]
        refine ⟨vp_in_nI (by omega) (by decide), ?_⟩
        by_cases c : (svX U N 0 e j && !(busy.testBit j)) = true
        · rw [if_pos c]
          have hne := (svX_lt vn (Bool.and_eq_true_iff.mp c).1).2.2
          have okc := tbC_ok (busy := busy) (b := j) (e := e) h9 (tb_ok (sv := svX U N 0) h9 (6 - e))
          have nq : tbC (hcN N) e busy (tb (svX U N 0) (hcN N) (6 - e)) j ≠ tb (svX U N 0) (hcN N) (6 - e + 1) busy := fun z => by
            unfold fbP at hf
            rw [hk3, c, z] at hf
            simp at hf
          have lq : (tbC (hcN N) e busy (tb (svX U N 0) (hcN N) (6 - e)) j).1 ≤ 7 ∧ (tbC (hcN N) e busy (tb (svX U N 0) (hcN N) (6 - e)) j).2 ≤ 693 := by unfold okq at okc; omega
          by_cases c1 : (tbC (hcN N) e busy (tb (svX U N 0) (hcN N) (6 - e)) j).1 = (tb (svX U N 0) (hcN N) (6 - e + 1) busy).1
          · refine ipos (by rw [c1]) (m_hateBy (sv := svX U N 0) hG hN vn (by omega) hj7 hb hne hT1 ⟨vp_in_nI (by omega) (by decide), ineg (fun z => ?_) (ih (j + 1) (by omega))⟩)
            rw [t2] at z
            have := (nI_eq (by omega) (by omega)).mp z
            exact nq (Prod.ext c1 this)
          · exact ineg (fun z => c1 ((nI_eq (by omega) (by omega)).mp z)) (ih (j + 1) (by omega))
        · rw [if_neg c]
          exact ineg (fun z => nI_nm1 (b := (tb (svX U N 0) (hcN N) (6 - e + 1) busy).1) (by omega) z.symm) (ih (j + 1) (by omega))
    refine lX12_laysRow_14 hG (m_manyNone hG (by omega) hb hT1 ?_)
    rw [ix128, nI_clamp (n := 128 * e + busy) (by omega), t1]
    refine ⟨vp_in_nI (by omega) (by decide), ?_⟩
    have e0 : (-1 : Int32) + 1 = nI 0 := by decide
    rw [e0]
    by_cases c1 : (tb (svX U N 0) (hcN N) (6 - e) busy).1 = (tb (svX U N 0) (hcN N) (6 - e + 1) busy).1
    · refine ipos (by rw [c1]) (m_hateNone hG (by omega) hb hT1 ⟨vp_in_nI (by omega) (by decide), ineg (fun z => ?_) (loop b 0 (by omega))⟩)
      rw [t2] at z
      have := (nI_eq (by omega) (by omega)).mp z
      exact q2 (Prod.ext c1 this)
    · exact ineg (fun z => c1 ((nI_eq (by omega) (by omega)).mp z)) (loop b 0 (by omega))
theorem rowS_lt {sv : Nat → Nat → Bool} {hc : Nat → Nat → Nat} {S : Nat × (Nat → Option Nat)} {e : Nat} (h : S.1 < 128) : (rowS sv hc S e).1 < 128 := by
  unfold rowS
  cases hp : fbA sv hc (6 - e) S.1 with
  | none => exact h
  | some b => exact or_lt7 h (fbA_lt hp).1
theorem fold_keep {sv : Nat → Nat → Bool} {hc : Nat → Nat → Nat} : ∀ (k i : Nat) (S : Nat × (Nat → Option Nat)) (e : Nat), e < i → ((List.range' i k).foldl (rowS sv hc) S).2 e = S.2 e
  | 0, i, S, e, he => rfl
  | k + 1, i, S, e, he => by
    rw [List.range'_succ, List.foldl_cons, fold_keep k (i + 1) _ e (by omega)]
    show setF S.2 i _ e = S.2 e
    unfold setF
    rw [if_neg (by omega)]
theorem m_laysRow {d : Nat} {U : dU} {N : dN} {M : mm_M} {K : mm_M → Prop} (hG : mm_G M.2.2) (hU : mU U M) (hN : mN N M) (vu : vU U) (vn : vN U N) (h66 : M.1 164 66 = nI 0) (hT : mTab (svX U N 0) (hcN N) 0 M) (hK : ∀ m, offM (fun c _ => c = 207) M m → (∀ e, e < U.2.1 → m.1 207 e = pickR (rowA (svX U N 0) (hcN N) e)) → K m) : mm_CV mX12_laysRow (d + 5) [.ref 164] M K := by
  have hu7 := vu.2.1
  refine rX12_laysRow hG ?_
  have loop : ∀ (k i : Nat) (S : Nat × (Nat → Option Nat)) (m : mm_M), i + k = U.2.1 → S.1 < 128 → offM (fun c _ => c = 207) M m → (∀ e, e < i → m.1 207 e = pickR (S.2 e)) → (List.range' i (7 - i)).foldl (rowS (svX U N 0) (hcN N)) S = (List.range' 0 7).foldl (rowS (svX U N 0) (hcN N)) (0, fun _ => none) → jX12_laysRow_4 (d + 4) m K (nI S.1) (nI i) := by
    intro k
    induction k with
    | zero =>
      intro i S m hi hS ho h hf
      have hGm : mm_G m.2.2 := by rw [ho.2.2]; exact hG
      have hUm : mU U m := mU_off hU ho (fun c j q => by omega)
      refine lX12_laysRow_4 hGm (m_houseMany hGm ?_)
      rw [hUm.2.1]
      refine ipos (nI_le (by omega) (by omega)) (hK m ho (fun e he => ?_))
      rw [h e (by omega)]
      unfold rowA
      rw [← hf, fold_keep _ _ _ _ (by omega)]
    | succ k ih =>
      intro i S m hi hS ho h hf
      have hGm : mm_G m.2.2 := by rw [ho.2.2]; exact hG
      have hUm : mU U m := mU_off hU ho (fun c j q => by omega)
      refine lX12_laysRow_4 hGm (m_houseMany hGm ?_)
      rw [hUm.2.1]
      refine ineg (nI_ge (by omega) (by omega)) ?_
      refine m_row_find hGm hUm (mN_off hN ho (fun c j q => by omega)) vu vn (by omega) hS (by rw [ho.1 _ _ (by omega)]; exact h66) (fun e z q1 q2 q3 => by rw [ho.1 _ _ (by omega), ho.1 _ _ (by omega)]; exact hT e z q1 q2 q3) ?_
      rw [show 7 - i = (7 - (i + 1)) + 1 by omega, List.range'_succ, List.foldl_cons] at hf
      refine ih (i + 1) (rowS (svX U N 0) (hcN N) S i) _ (by omega) (rowS_lt hS) (offM_tr ho (offM_uI rfl)) (fun e he => ?_) hf
      show _ = pickR (setF S.2 i (fbA (svX U N 0) (hcN N) (6 - i) S.1) e)
      unfold setF
      by_cases c : e = i
      · subst c; rw [uI_at, if_pos rfl]
      · rw [uI_j c, if_neg c]; exact h e (by omega)
  exact loop U.2.1 0 (0, fun _ => none) M (by omega) (by decide) offM_rf (fun e he => by omega) rfl
