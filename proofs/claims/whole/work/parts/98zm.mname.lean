/-! ===== the reference reads a name ===== -/
def wNm (c j : Nat) : Prop := c = 164 ∧ (j = 2 ∨ j = 4 ∨ j = 5 ∨ j = 6 ∨ j = 10 ∨ j = 35)
theorem wLx_N {M m : mm_M} (o : offM wLx M m) : offM wNm M m := offM_mono o (fun c j z => by unfold wLx at z; unfold wNm; omega)
theorem wL2_N {M m : mm_M} (o : offM wL2 M m) : offM wNm M m := offM_mono o (fun c j z => by unfold wL2 at z; unfold wNm; omega)
section
variable {T : dT} {q d : Nat} {M : mm_M}
theorem m_name {K : Int64 → mm_M → Prop} (hG : mm_G M.2.2) (h : mLx T q M) (hw : mWd M) (h1 : nmX T q = none → ∀ m, offM wNm M m → mLx T (nxt T q) m → m.1 164 35 = nI q → K (lN (nameN (nmOf T q) (ten T q - q))) m) (h2 : ∀ k p, nmX T q = some (k, p) → ∀ m, offM wNm M m → mXs k p m → K 0 m) : mm_CL mX12_name (d + 3) [.ref 164] M K := by
  have hbad : M.1 164 5 = 0 := by obtain ⟨p, h⟩ := h; exact h.2.1
  have hq := mLx_q h
  refine rX12_name hG (ipos hbad (m_lookP hG h (fun m1 o1 l1 => ?_)))
  have o1' : offM wNm M m1 := wL2_N o1
  have hG1 : mm_G m1.2.2 := by rw [o1.2.2]; exact hG
  have hw1 : mWd m1 := mWd_m hw o1 (fun c j z => by omega)
  have hn : T.2 ≤ 1600 := l1.1.2.1
  have fault : ∀ (m : mm_M), offM wNm M m → mLp T q q m → ¬ (tkk T q = 1 ∧ ownW T q = false) → mm_CV mX12_fail (d + 2) [.ref 164, .int 1, .int (m.1 164 2)] m (fun m43 => K 0 m43) := fun m o l z => by
    rw [l.2.2.2.2.1]
    exact m_failP (k := 1) (p := q) (by rw [o.2.2]; exact hG) l.2.1 (by omega) (by omega) (fun m' o' x => h2 1 q (by unfold nmX; rw [if_neg z]) m' (offM_tr o (wLx_N o')) x)
  refine m_isLetter hG1 (fun hlt => ineg (by decide) ?_) (fun hlt => ipos rfl (fault m1 o1' l1 (fun z => ?_)))
  · have hqn : q < T.2 := by
      by_cases c : q < T.2
      · exact c
      · rw [if_neg c] at hlt; exact absurd hlt (by decide)
    rw [if_pos hqn] at hlt
    refine ite_go (fun cg => fault m1 o1' l1 (fun z => ?_)) (fun cg => ?_)
    · have hg := (mLk_en l1).mp cg
      have z := z.1
      unfold tkk at z
      rw [if_neg (by omega), if_pos hg] at z
      exact absurd z (by decide)
    · have hg : glu T q = false := by
        cases hh : glu T q with
        | false => rfl
        | true => exact absurd ((mLk_en l1).mpr hh) cg
      have htk : tkk T q = 1 := by
        unfold tkk
        rw [if_neg (by omega), if_neg (by rw [hg]; decide)]
        exact knd_1.mpr hlt
      have et : ten T q = rn T isLt q := by unfold ten; rw [htk]; rfl
      refine m_isOwn hG1 ⟨_, l1⟩ hw1 (fun ho m2 o2 l2 => ineg (by decide) (fault m2 (offM_tr o1' (wL2_N o2)) l2 (fun z => by rw [ho] at z; exact absurd z.2 (by decide)))) (fun ho m2 o2 l2 => ipos rfl ?_)
      have o2' := offM_tr o1' (wL2_N o2)
      have hG2 : mm_G m2.2.2 := by rw [o2.2.2]; exact hG1
      rw [l2.2.2.2.2.1]
      have o3 : offM (fun c j => c = 164 ∧ j = 35) m2 (mm_uI m2 164 35 (nI q)) := offM_uI ⟨rfl, rfl⟩
      have g3 : (mm_uI m2 164 35 (nI q)).1 164 35 = nI q := uI_at _ _ _ _
      have l3 := mLp_off l2 o3 (fun c j z => by omega)
      generalize mm_uI m2 164 35 (nI q) = m3 at o3 g3 l3 ⊢
      have o3' : offM wNm M m3 := offM_tr o2' (offM_mono o3 (fun c j z => by unfold wNm; omega))
      obtain ⟨r1, r2, r3, r4⟩ := rn_p (T := T) (P := isLt) hq
      have hb := ten_b hq
      have hok : tkk T q = 1 ∧ ownW T q = false := ⟨htk, ho⟩
      -- along the letters
      have fin : ∀ (n : Nat) (m : mm_M), q + n = rn T isLt q → n ≤ 6 → offM (fun c j => c = 164 ∧ j = 2) m3 m → m.1 164 2 = nI (q + n) → K (lN (nameN (nmOf T q) n)) (mm_uI m 164 4 (nI (q + n))) := fun n m hn' h6 o e2 => by
        have hnone : nmX T q = none := by unfold nmX; rw [if_pos hok, if_pos (by omega)]
        have o4 : offM (fun c j => c = 164 ∧ (j = 2 ∨ j = 4 ∨ j = 10)) m3 (mm_uI m 164 4 (nI (q + n))) := offM_tr (offM_mono o (fun c j z => by omega)) (offM_uI (by omega))
        have := h1 hnone _ (offM_tr o3' (offM_mono o4 (fun c j z => by unfold wNm; omega))) ⟨_, mLp_on l3 (p := q + n) (by omega) (Or.inl htk) o4 (by rw [uI_j (by decide)]; exact e2) (uI_at _ _ _ _)⟩ (by rw [o4.1 _ _ (by omega)]; exact g3)
        rw [show ten T q - q = n by omega] at this
        exact this
      have loop : ∀ (k n : Nat) (m : mm_M), q + n + k = rn T isLt q → n ≤ 6 → offM (fun c j => c = 164 ∧ j = 2) m3 m → m.1 164 2 = nI (q + n) → jX12_name_58 (d + 2) m K (lN (nameN (nmOf T q) n)) := by
        intro k
        induction k with
        | zero =>
          intro n m hn' h6 o e2
          have hGm : mm_G m.2.2 := by rw [o.2.2, o3.2.2]; exact hG2
          have e3 : m.1 164 3 = nI T.2 := by rw [o.1 _ _ (by omega)]; exact l3.1.1
          refine lX12_name_58 hGm ?_
          rw [e2, e3]
          refine ite_go (fun c => fin n m (by omega) h6 o e2) (fun c => ?_)
          have hlt : q + n < T.2 := by
            by_cases c2 : q + n < T.2
            · exact c2
            · exact absurd (nI_le (a := T.2) (b := q + n) (by omega) (by omega)) c
          rw [nI_clamp (by omega), o.1 165 _ (by omega), l3.1.2.2 _ hlt]
          refine ⟨vp_in_nI (by omega) (by decide), m_isLetter hGm (fun z => ?_) (fun z => ipos rfl ?_)⟩
          · have e0 : q + n = rn T isLt q := by omega
            rw [e0, r3 (by omega)] at z
            exact absurd z (by decide)
          · rw [e2]; exact fin n m (by omega) h6 o e2
        | succ k ih =>
          intro n m hn' h6 o e2
          have hGm : mm_G m.2.2 := by rw [o.2.2, o3.2.2]; exact hG2
          have e3 : m.1 164 3 = nI T.2 := by rw [o.1 _ _ (by omega)]; exact l3.1.1
          have e35 : m.1 164 35 = nI q := by rw [o.1 _ _ (by omega)]; exact g3
          have hlt : q + n < T.2 := by omega
          have hL := r4 (q + n) (by omega) (by omega)
          refine lX12_name_58 hGm ?_
          rw [e2, e3, nI_clamp (by omega), o.1 165 _ (by omega), l3.1.2.2 _ hlt]
          refine ineg (nI_ge hlt (by omega)) ⟨vp_in_nI (by omega) (by decide), m_isLetter hGm (fun _ => ineg (by decide) ?_) (fun z => by rw [hL] at z; cases z)⟩
          rw [e2, e35, nI_clamp (by omega), o.1 165 _ (by omega), l3.1.2.2 _ hlt, show nI (q + n) - nI q = nI n by rw [pk_sub (by omega), show q + n - q = n by omega], nI_1]
          by_cases c6 : n = 6
          · subst c6
            refine ipos rfl (m_failP (k := 1) (p := q + 6) hGm (by rw [o.1 _ _ (by omega)]; exact l3.2.1) (by omega) (by omega) (fun m' o' x => h2 1 (q + 6) ?_ m' (offM_tr (offM_tr o3' (offM_mono o (fun c j z => by unfold wNm; omega))) (wLx_N o')) x))
            unfold nmX
            rw [if_pos hok, if_neg (by omega)]
          · refine ineg (fun z => c6 ((nI_eq (a := n) (b := 6) (by omega) (by decide)).mp z)) ⟨vp_in_nI (by omega) (by decide), ?_⟩
            have hlet : ∀ i, i < n + 1 → inI 1 26 (nmOf T q i) := fun i hi => by
              have hl := r4 (q + i) (by omega) (by omega)
              unfold isLt at hl
              have hl := of_decide_eq_true hl
              unfold nmOf
              rw [if_pos (by omega)]
              have e : (T.1 (q + i) - 97 + 1).toInt = (T.1 (q + i)).toInt - 96 := by
                rw [Int32.toInt_add, Int32.toInt_sub]
                show (((T.1 (q + i)).toInt - 97).bmod _ + 1 : Int).bmod _ = _
                rw [bm32 (n := (T.1 (q + i)).toInt - 97) (by omega) (by omega), bm32 (by omega) (by omega)]; omega
              unfold inI
              rw [e]; omega
            have b1 := nameN_lt (f := nmOf T q) (n := n) (fun i hi => hlet i (by omega)) (by omega)
            have b2 := nameN_lt (f := nmOf T q) (n := n + 1) hlet (by omega)
            have ev : (((27 * lN (nameN (nmOf T q) n)) + ((T.1 (q + n)).toInt64)) - 97) + 1 = lN (nameN (nmOf T q) (n + 1)) := by
              have hl := of_decide_eq_true (show decide (97 ≤ (T.1 (q + n)).toInt ∧ (T.1 (q + n)).toInt ≤ 122) = true from hL)
              have en : (nmOf T q n).toInt = (T.1 (q + n)).toInt - 96 := by
                unfold nmOf
                rw [if_pos (by omega), Int32.toInt_add, Int32.toInt_sub]
                show (((T.1 (q + n)).toInt - 97).bmod _ + 1 : Int).bmod _ = _
                rw [bm32 (n := (T.1 (q + n)).toInt - 97) (by omega) (by omega), bm32 (by omega) (by omega)]; omega
              have es : nameN (nmOf T q) (n + 1) = 27 * nameN (nmOf T q) n + (nmOf T q n).toInt.toNat := rfl
              have e27 : (27 * lN (nameN (nmOf T q) n)).toInt = 27 * (nameN (nmOf T q) n : Int) := by
                rw [Int64.toInt_mul, pk_lT (by omega)]
                show (27 * (nameN (nmOf T q) n : Int)).bmod _ = _
                exact bm64 (by omega) (by omega)
              rw [i64_eq, Int64.toInt_add, Int64.toInt_sub, Int64.toInt_add, e27, i64_of, pk_lT (by omega)]
              show ((((27 * (nameN (nmOf T q) n : Int) + (T.1 (q + n)).toInt).bmod _ - 97 : Int).bmod _) + 1 : Int).bmod _ = _
              rw [bm64 (n := 27 * (nameN (nmOf T q) n : Int) + (T.1 (q + n)).toInt) (by omega) (by omega), bm64 (n := 27 * (nameN (nmOf T q) n : Int) + (T.1 (q + n)).toInt - 97) (by omega) (by omega), bm64 (by omega) (by omega), es]
              omega
            rw [ev]
            exact ih (n + 1) _ (by omega) (by omega) (offM_tr o (offM_uI ⟨rfl, rfl⟩)) (uI_at _ _ _ _)
      exact loop (rn T isLt q - q) 0 m3 (by omega) (by omega) offM_rf l3.2.2.2.2.1
  · by_cases c : q < T.2
    · rw [if_pos c] at hlt
      rcases tkk_c T q with ⟨b1, b2, b3⟩ | ⟨b1, b2, b3, b4, b5⟩ | ⟨b1, b2, b3, b4, b5⟩ | ⟨b1, b2, b3, b4⟩
      · rw [b1] at z; exact absurd z.1 (by decide)
      · rw [hlt] at b4; exact absurd b4 (by decide)
      · rw [b1] at z; exact absurd z.1 (by decide)
      · rw [b1] at z; exact absurd z.1 (by decide)
    · have z := z.1
      unfold tkk at z
      rw [if_pos (by omega)] at z
      exact absurd z (by decide)
theorem m_nameX {k p : Nat} {K : Int64 → mm_M → Prop} (hG : mm_G M.2.2) (h : mXs k p M) (hK : K 0 M) : mm_CL mX12_name (d + 1) [.ref 164] M K := rX12_name hG (ineg (mXn0 h) hK)
end
