/-! ===== the reference reads a feud ===== -/
theorem m_houseNamedX {d k p n : Nat} {M : mm_M} {K : Int32 → mm_M → Prop} (hG : mm_G M.2.2) (x : mXs k p M) (h37 : M.1 164 37 = nI n) (h7 : n ≤ 7) (hK : ∀ z, K z M) : mm_CI mX12_houseNamed (d + 2) [.ref 164] M K := by
  refine rX12_houseNamed hG (m_nameX hG x ?_)
  have loop : ∀ (f h : Nat), h + f = n → jX12_houseNamed_7 (d + 1) M K 0 (nI h) := by
    intro f
    induction f with
    | zero =>
      intro h hh
      refine lX12_houseNamed_7 hG ?_
      rw [h37]
      exact ipos (nI_le (by omega) (by omega)) (ineg (mXn0 x) (hK 0))
    | succ f ih =>
      intro h hh
      refine lX12_houseNamed_7 hG ?_
      rw [h37, nI_1]
      exact ineg (nI_ge (by omega) (by omega)) ⟨vp_in_nI (by omega) (by decide), ite_go (fun _ => hK _) (fun _ => ih (h + 1) (by omega))⟩
  exact loop n 0 (by omega)
theorem m_houseNamedD {T : dT} {q i d : Nat} {R : dR} {M : mm_M} {K : Int32 → mm_M → Prop} (hG : mm_G M.2.2) (hD : mDs T q R i M) (h7 : R.2.2.1 ≤ 7)
    (h1 : ∀ b, nmX T q = none → fndN R (nmOf T q) = some b → ∀ m, offM wNm M m → mDs T (nxt T q) R i m → m.1 164 35 = nI q → K (nI b) m)
    (h2 : ∀ k p, (nmX T q = some (k, p) ∨ (nmX T q = none ∧ fndN R (nmOf T q) = none ∧ k = 3 ∧ p = q)) → ∀ z m, offM wNm M m → mXs k p m → K z m) : mm_CI mX12_houseNamed (d + 4) [.ref 164] M K := by
  have hn : T.2 ≤ 1600 := by obtain ⟨p, h⟩ := hD.1; exact h.1.2.1
  have hq := mLx_q hD.1
  refine rX12_houseNamed hG (m_name hG hD.1 hD.2.1 (fun hnm m o l e35 => ?_) (fun k p hnm m o x => ?_))
  · have D := mDs_n hD o l
    have hGm : mm_G m.2.2 := by rw [o.2.2]; exact hG
    have hbad : m.1 164 5 = 0 := by obtain ⟨p, h⟩ := l; exact h.2.1
    have hy := nm_Na hq hnm
    have loop : ∀ (f h : Nat), h + f = R.2.2.1 → (∀ b, fnF (sameB R (nmOf T q)) f h = some b → K (nI b) m) → (fnF (sameB R (nmOf T q)) f h = none → ∀ m', offM wNm M m' → mXs 3 q m' → K 0 m') → jX12_houseNamed_7 (d + 3) m K (lN (nameN (nmOf T q) (ten T q - q))) (nI h) := by
      intro f
      induction f with
      | zero =>
        intro h hh a1 a2
        refine lX12_houseNamed_7 hGm ?_
        rw [D.2.2.1.1, e35]
        refine ipos (nI_le (by omega) (by omega)) (ipos hbad (m_failP (k := 3) (p := q) hGm hbad (by omega) (by omega) (fun m' o' x => a2 rfl m' (offM_tr o (wLx_N o')) x)))
      | succ f ih =>
        intro h hh a1 a2
        have hs := m_same (D.2.2.1.2.2.2.1 h (by omega)).1 hy
        have ef : fnF (sameB R (nmOf T q)) (f + 1) h = if sameB R (nmOf T q) h = true then some h else fnF (sameB R (nmOf T q)) f (h + 1) := rfl
        rw [ef] at a1 a2
        refine lX12_houseNamed_7 hGm ?_
        rw [D.2.2.1.1, nI_clamp (by omega), nI_1]
        refine ineg (nI_ge (by omega) (by omega)) ⟨vp_in_nI (by omega) (by decide), ite_go (fun c => ?_) (fun c => ?_)⟩
        · rw [if_pos (hs.mp c)] at a1
          exact a1 h rfl
        · rw [if_neg (fun z => c (hs.mpr z))] at a1 a2
          exact ih (h + 1) (by omega) a1 a2
    exact loop R.2.2.1 0 (by omega) (fun b hb => h1 b hnm hb m o D e35) (fun hb m' o' x => h2 3 q (Or.inr ⟨hnm, hb, rfl, rfl⟩) 0 m' o' x)
  · have hGm : mm_G m.2.2 := by rw [o.2.2]; exact hG
    have e37 : m.1 164 37 = nI R.2.2.1 := by rw [o.1 _ _ (by unfold wNm; omega)]; exact hD.2.2.1.1
    have loop : ∀ (f h : Nat), h + f = R.2.2.1 → jX12_houseNamed_7 (d + 3) m K 0 (nI h) := by
      intro f
      induction f with
      | zero =>
        intro h hh
        refine lX12_houseNamed_7 hGm ?_
        rw [e37]
        exact ipos (nI_le (by omega) (by omega)) (ineg (mXn0 x) (h2 k p (Or.inl hnm) 0 m o x))
      | succ f ih =>
        intro h hh
        refine lX12_houseNamed_7 hGm ?_
        rw [e37, nI_1]
        exact ineg (nI_ge (by omega) (by omega)) ⟨vp_in_nI (by omega) (by decide), ite_go (fun _ => h2 k p (Or.inl hnm) _ m o x) (fun _ => ih (h + 1) (by omega))⟩
    exact loop R.2.2.1 0 (by omega)
set_option maxHeartbeats 2000000 in
theorem m_feudD {T : dT} {q i d : Nat} {R : dR} {M0 M : mm_M} {K : mm_M → Prop} (hG : mm_G M.2.2) (oM : offM wMd M0 M) (hD : mDs T (nxt T q) R i M) (v : vR T q R) (hK : stK (fdB T q R) (fun q' R' => ∀ m, offM wMd M0 m → mDs T q' R' i m → K m) (fun k p => ∀ m, offM wMd M0 m → mXs k p m → K m)) : mm_CV mX12_feudTold (d + 5) [.ref 164] M K := by
  obtain ⟨v1, v2, v3, v4, v5, v6, v7, v8, v9, v10, v11, v12, v13, hq⟩ := id v
  have hn : T.2 ≤ 1600 := by obtain ⟨p, h⟩ := hD.1; exact h.1.2.1
  have n1 := nxt_b hq
  have n2 := nxt_b n1.2.1
  have n3 := nxt_b n2.2.1
  have n4 := nxt_b n3.2.1
  have n5 := nxt_b n4.2.1
  have st : ∀ m, offM wNm M m → offM wMd M0 m ∧ mm_G m.2.2 ∧ m.1 164 37 = nI R.2.2.1 := fun m o => ⟨offM_tr oM (wNm_D o), by rw [o.2.2]; exact hG, by rw [o.1 _ _ (by unfold wNm; omega)]; exact hD.2.2.1.1⟩
  have x52 : ∀ (k p : Nat) (z1 z2 : Int32) (m : mm_M), offM wNm M m → mXs k p m → (∀ m, offM wMd M0 m → mXs k p m → K m) → jX12_feudTold_52 (d + 4) m K z1 z2 := fun k p z1 z2 m o x no => lX12_feudTold_52 (st m o).2.1 (m_asksDX (i := 6) (d := d + 3) (by omega) (st m o).2.1 x (m_numX (d := d + 3) (st m o).2.1 x (ineg (mXn0 x) (no m (st m o).1 x))))
  unfold fdB at hK
  refine rX12_feudTold hG (m_houseNamedD (d := d) hG hD v3 (fun a hnm hf m1 o1 D1 e35 => ?_) (fun k p hx z m1 o1 x1 => ?_))
  · rw [hnm] at hK
    simp only at hK
    rw [hf] at hK
    simp only at hK
    have la := fnd_lt hf
    unfold wordF at hK
    refine m_asksD (i := 5) (d := d + 1) (by omega) (st m1 o1).2.1 D1.1 D1.2.1 (fun hw m2 o2 l2 => ?_) (fun hw m2 o2 x2 => ?_)
    · rw [if_pos (show wdn T _ = 5 from hw)] at hK
      unfold fdB2 at hK
      have o2' := offM_tr o1 (wLx_N o2)
      have D2 := mDs_x D1 o2 l2
      refine m_houseNamedD (d := d) (st m2 o2').2.1 D2 v3 (fun b hnm2 hf2 m3 o3 D3 e35 => ?_) (fun k p hx z m3 o3 x3 => ?_)
      · rw [hnm2] at hK
        simp only at hK
        rw [hf2] at hK
        simp only at hK
        have lb := fnd_lt hf2
        have o3' := offM_tr o2' o3
        have hbad3 : m3.1 164 5 = 0 := by obtain ⟨p, h⟩ := D3.1; exact h.2.1
        refine ipos hbad3 ?_
        rw [e35]
        have fault : (b = a ∨ 0 < R.2.2.2.2.2.2.1 a b) → mm_CV mX12_fail (d + 4) [.ref 164, .int 3, .int (nI (nxt T (nxt T (nxt T q))))] m3 (fun m49 => jX12_feudTold_52 (d + 4) m49 K (nI a) (nI b)) := fun c => by
          rw [if_pos c] at hK
          exact m_failP (k := 3) (p := nxt T (nxt T (nxt T q))) (st m3 o3').2.1 hbad3 (by omega) (by omega) (fun m4 o4 x4 => x52 3 _ _ _ m4 (offM_tr o3' (wLx_N o4)) x4 hK)
        by_cases hab : b = a
        · exact ipos (by rw [hab]) (fault (Or.inl hab))
        · refine ineg (fun z => hab ((nI_eq (by omega) (by omega)).mp z).symm) (m_pairOf (st m3 o3').2.1 (by omega) (by omega) (fun z => hab z.symm) ?_)
          have hpr := pr_lt a (by omega) b (by omega) (fun z => hab z.symm)
          rw [nI_clamp (by omega), D3.2.2.1.2.2.2.2.1 a b (by omega) (by omega) (fun z => hab z.symm), e35]
          refine ⟨vp_in_nI hpr (by decide), ite_go (fun c0 => ?_) (fun c0 => fault (Or.inr ?_))⟩
          · have hbad : ¬ (b = a ∨ 0 < R.2.2.2.2.2.2.1 a b) := fun z => by
              rcases z with z | z
              · exact hab z
              · rw [c0] at z; exact absurd z (by decide)
            rw [if_neg hbad] at hK
            unfold wordF at hK
            refine lX12_feudTold_52 (st m3 o3').2.1 (m_asksD (i := 6) (d := d + 1) (by omega) (st m3 o3').2.1 D3.1 D3.2.1 (fun hw2 m4 o4 l4 => ?_) (fun hw2 m4 o4 x4 => ?_))
            · rw [if_pos (show wdn T _ = 6 from hw2)] at hK
              have o4' := offM_tr o3' (wLx_N o4)
              unfold numF at hK
              refine m_num (lo := 1) (hi := 99) (d := d + 3) (st m4 o4').2.1 l4 (by omega) (by omega) (fun hu m5 o5 l5 => ?_) (fun k p hu z m5 o5 x5 => ?_)
              · rw [hu] at hK
                have hK : ∀ m, offM wMd M0 m → mDs T (nxt T (nxt T (nxt T (nxt T (nxt T (nxt T q)))))) (setHt R a b (vlu T (nxt T (nxt T (nxt T (nxt T (nxt T q))))))) i m → K m := hK
                have o5' := offM_tr o4' (wLx_N o5)
                have D5 := mDs_x (mDs_x D3 o4 l4) o5 l5
                have hbad5 : m5.1 164 5 = 0 := by obtain ⟨p, h⟩ := l5; exact h.2.1
                refine ipos hbad5 (m_pairOf (st m5 o5').2.1 (by omega) (by omega) (fun z => hab z.symm) ⟨vp_in_nI hpr (by decide), ?_⟩)
                rw [nI_clamp (by omega)]
                have o6 : offM (fun c j => c = 195) m5 (mm_uI m5 195 (pr a b) (vlu T (nxt T (nxt T (nxt T (nxt T (nxt T q))))))) := offM_uI rfl
                refine hK _ (offM_tr (st m5 o5').1 (offM_mono o6 (fun c j z => by unfold wMd; omega))) ⟨mLx_off l5 o6 (fun c j z => by omega), mWd_m D5.2.1 o6 (fun c j z => by omega), ?_, by rw [o6.1 _ _ (by omega)]; exact D5.2.2.2⟩
                obtain ⟨d1, d2, d3, d4, d5, d6, d7⟩ := D5.2.2.1
                refine ⟨by rw [o6.1 _ _ (by omega)]; exact d1, by rw [o6.1 _ _ (by omega)]; exact d2, by rw [o6.1 _ _ (by omega)]; exact d3, fun h hh => by rw [o6.1 193 h (by omega), o6.1 194 h (by omega)]; exact d4 h hh, fun x y hx hy hxy => ?_, fun k hk => ⟨fun z => by rw [o6.1 _ _ (by omega)]; exact (d6 k hk).1 z, fun C hC => ?_⟩, by rw [o6.1 _ _ (by omega)]; exact d7⟩
                · show _ = if (x = a ∧ y = b) ∨ (x = b ∧ y = a) then _ else R.2.2.2.2.2.2.1 x y
                  by_cases c : (x = a ∧ y = b) ∨ (x = b ∧ y = a)
                  · rw [if_pos c]
                    rcases c with ⟨rfl, rfl⟩ | ⟨rfl, rfl⟩
                    · exact uI_at _ _ _ _
                    · rw [pr_sym x hx y hy]; exact uI_at _ _ _ _
                  · rw [if_neg c, uI_j (fun z => c (pr_inj x hx y hy a (by omega) b (by omega) hxy (fun z => hab z.symm) z))]
                    exact d5 x y hx hy hxy
                · obtain ⟨f, e, q1, q2, q3, q4, q5⟩ := (d6 k hk).2 C hC
                  exact ⟨f, e, by rw [o6.1 _ _ (by omega)]; exact q1, by rw [o6.1 _ _ (by omega)]; exact q2, q3, q4, fun j c hj => by rw [o6.1 _ _ (by omega)]; exact q5 j c hj⟩
              · rw [hu] at hK
                exact ineg (mXn0 x5) (hK m5 (st m5 (offM_tr o4' (wLx_N o5))).1 x5)
            · rw [if_neg (show ¬ wdn T _ = 6 from hw2)] at hK
              have o4' := offM_tr o3' (wLx_N o4)
              exact m_numX (d := d + 3) (st m4 o4').2.1 x4 (ineg (mXn0 x4) (hK m4 (st m4 o4').1 x4))
          · have := v8 a b
            unfold inI at this
            refine i32_lt.mpr ?_
            have : ¬ (R.2.2.2.2.2.2.1 a b).toInt = 0 := fun z => c0 (i32_eq.mpr z)
            show (0 : Int) < _
            omega
      · have o3' := offM_tr o2' o3
        have no : ∀ m, offM wMd M0 m → mXs k p m → K m := by
          rcases hx with z | ⟨z1, z2, rfl, rfl⟩
          · rw [z] at hK; exact hK
          · rw [z1] at hK
            simp only at hK
            rw [z2] at hK
            exact hK
        exact ineg (mXn0 x3) (x52 k p _ _ m3 o3' x3 no)
    · rw [if_neg (show ¬ wdn T _ = 5 from hw)] at hK
      have o2' := offM_tr o1 (wLx_N o2)
      exact m_houseNamedX (d := d + 2) (st m2 o2').2.1 x2 (st m2 o2').2.2 v3 (fun z => ineg (mXn0 x2) (x52 1 _ _ _ m2 o2' x2 hK))
  · have no : ∀ m, offM wMd M0 m → mXs k p m → K m := by
      rcases hx with z | ⟨z1, z2, rfl, rfl⟩
      · rw [z] at hK; exact hK
      · rw [z1] at hK
        simp only at hK
        rw [z2] at hK
        exact hK
    exact m_asksDX (i := 5) (d := d + 3) (by omega) (st m1 o1).2.1 x1 (m_houseNamedX (d := d + 2) (st m1 o1).2.1 x1 (st m1 o1).2.2 v3 (fun z => ineg (mXn0 x1) (x52 k p _ _ m1 o1 x1 no)))
