/-! ===== the class reads a name ===== -/
section
variable {T : dT} {tk a r s q o d : Nat} {C : List Nat} {M : mm_M}
theorem c_expWord {K : mm_M → Prop} {w : Int32} (h0 : cX0 a r) (hG : mm_G M.2.2) (hs : cPs T tk a r s q C o M) (hq : q ≤ T.2) (h1 : wdn T q = w → ∀ m, offM (wPr a r) M m → cPs T tk a r s (nxt T q) C o m → K m) (h2 : wdn T q ≠ w → ∀ m, offM (wPr a r) M m → cXs a r 1 q m → K m) : mm_CV mX6_expectWord (d + 7) [.ref a, .int w] M K := by
  have hn := hs.1.2.1
  refine rX6_expectWord h0.1 hG (c_takeWord h0 hG hs hq (fun z m o' s' => ineg (by decide) (h1 z m o' s')) (fun z => ipos rfl ?_))
  rw [hs.2.1.1]
  exact c_refuseP (k := 1) (p := q) h0 hG hs (by omega) (by omega) (h2 z)
theorem c_expWordX {K : mm_M → Prop} {w : Int32} {k p : Nat} (h0 : cX0 a r) (hG : mm_G M.2.2) (hs : cXs a r k p M) (hK : K M) : mm_CV mX6_expectWord (d + 2) [.ref a, .int w] M K :=
  rX6_expectWord h0.1 hG (c_takeWordX h0 hG hs (ipos rfl (c_refuseX h0 hG hs hK)))
theorem c_isAtName {K : Int32 → mm_M → Prop} (h0 : cX0 a r) (hG : mm_G M.2.2) (hs : cPs T tk a r s q C o M) (hq : q ≤ T.2) (h1 : nmX T q = none → K 1 M) (h2 : ∀ k p, nmX T q = some (k, p) → ∀ m, offM (wPr a r) M m → cXs a r k p m → K 0 m) : mm_CI mX6_isAtName (d + 1) [.ref a] M K := by
  have hn := hs.1.2.1
  obtain ⟨t1, t2, t3, t4, t5, t6⟩ := hs.2.1
  have hb := ten_b hq
  have z0 : (0 : Int32).toInt = 0 := rfl
  have z24 : (24 : Int32).toInt = 24 := rfl
  refine rX6_isAtName h0.1 hG ?_
  rw [t1, t2, t3]
  have bad : ¬ (tkk T q = 1 ∧ ownW T q = false) → mm_CV mX6_refuse d [.ref a, .int 1, .int (nI q)] M (fun m30 => if (m30.1 a 8) = 0 then (K 1 m30) else (K 0 m30)) := fun z => c_refuseP (k := 1) (p := q) h0 hG hs (by omega) (by omega) (fun m o' x => ineg (X_n0 x) (h2 1 q (by unfold nmX; rw [if_neg z]) m o' x))
  have good : (tkk T q = 1 ∧ ownW T q = false) → jX6_isAtName_36 d a M K := fun z => by
    refine lX6_isAtName_36 h0.1 hG ?_
    have e6 : nI q + 6 = nI (q + 6) := nI_add q 6
    rw [t4, t1, pk_sub hb.1, e6]
    by_cases c : ten T q - q ≤ 6
    · exact ipos (nI_le (b := 6) c (by decide)) (ipos hs.2.2.1 (h1 (by unfold nmX; rw [if_pos z, if_pos c])))
    · refine ineg (nI_ge (a := 6) (by omega) (by omega)) (c_refuseP (k := 1) (p := q + 6) h0 hG hs (by omega) (by omega) (fun m o' x => ineg (X_n0 x) (h2 1 (q + 6) (by unfold nmX; rw [if_pos z, if_neg c]) m o' x)))
  refine ite_go (fun c1 => ite_go (fun c2 => good ⟨c1, ?_⟩) (fun c2 => ite_go (fun c3 => good ⟨c1, ?_⟩) (fun c3 => bad (fun z => ?_)))) (fun c1 => bad (fun z => c1 z.1))
  · have := i32_lt.mp c2
    unfold ownW
    exact decide_eq_false (fun y => by omega)
  · have := i32_le.mp c3
    unfold ownW
    exact decide_eq_false (fun y => by omega)
  · have c2 := mt i32_lt.mpr c2
    have c3 := mt i32_le.mpr c3
    have := of_decide_eq_false z.2
    omega
end
/-- names of the houses told so far, in the class's rows -/
def cNm (r n : Nat) (f : Nat → Nat → Int32) (M : mm_M) : Prop := M.1 r 2 = nI n ∧ ∀ h k, h < n → k < 6 → M.1 (r + 1) (6 * h + k) = f h k
theorem c_houseNamed {T : dT} {r q d : Nat} {R : dR} {M : mm_M} {K : Int32 → mm_M → Prop} (hr : r ∈ mm_Rls) (hG : mm_G M.2.2) (hn : T.2 ≤ 1600) (hx : ∀ j, j < T.2 → M.1 1 j = T.1 j) (hq : q ≤ T.2) (hN : cNm r R.2.2.1 R.2.2.2.1 M) (h7 : R.2.2.1 ≤ 7) (hK : K (match fndN R (nmOf T q) with | none => -1 | some h => nI h) M) : mm_CI mX7_houseNamed d [.ref r, .ref 1, .int (nI q), .int (nI (ten T q))] M K := by
  have hs : mm_SH[1]? = some (0, 1600) := by decide +kernel
  have hb := ten_b hq
  refine rX7_houseNamed (n1 := 1600) hr hs hG ?_
  have loop : ∀ (k h : Nat), h + k = R.2.2.1 → K (match fnF (sameB R (nmOf T q)) k h with | none => -1 | some h => nI h) M → jX7_houseNamed_3 d r 1 1600 (nI q) (nI (ten T q)) M K (nI q) (nI (ten T q)) (nI h) := by
    intro k
    induction k with
    | zero =>
      intro h hh hK
      refine lX7_houseNamed_3 hr hs hG ?_
      rw [hN.1]
      exact ipos (nI_le (by omega) (by omega)) hK
    | succ k ih =>
      intro h hh hK
      refine lX7_houseNamed_3 hr hs hG ?_
      rw [hN.1]
      refine ineg (nI_ge (by omega) (by omega)) (ineg (nI_ge (b := 7) (by omega) (by decide)) ?_)
      have hK : K (match (if sameB R (nmOf T q) h = true then some h else fnF (sameB R (nmOf T q)) k (h + 1)) with | none => -1 | some h => nI h) M := hK
      have no : ¬ (∀ i, i < 6 → R.2.2.2.1 h i = nmOf T q i) → jX7_houseNamed_3 d r 1 1600 (nI q) (nI (ten T q)) M K (nI q) (nI (ten T q)) (nI (h + 1)) := fun z => by
        refine ih (h + 1) (by omega) ?_
        rw [if_neg (fun y => z (sameB_i.mp y))] at hK
        exact hK
      have inner : ∀ (f i : Nat), i + f = 6 → (∀ j, j < i → R.2.2.2.1 h j = nmOf T q j) → jX7_houseNamed_25 d r 1 1600 (nI q) (nI (ten T q)) M K (nI q) (nI (ten T q)) (nI h) 1 (nI i) := by
        intro f
        induction f with
        | zero =>
          intro i hi hm
          obtain rfl : i = 6 := by omega
          refine lX7_houseNamed_25 hr hs hG (ipos (by decide) (ineg (by decide) ?_))
          rw [if_pos (show sameB R (nmOf T q) h = true from sameB_i.mpr hm)] at hK
          exact hK
        | succ f ihf =>
          intro i hi hm
          have e6 : nI h * 6 = nI (h * 6) := pk_mul h 6
          have l74 : ∀ u0 : Int32, u0 = nmOf T q i → jX7_houseNamed_74 d r 1 1600 (nI q) (nI (ten T q)) M K (nI q) (nI (ten T q)) (nI h) (nI i) u0 := fun u0 hu => by
            refine lX7_houseNamed_74 hr hs hG ?_
            rw [e6, nI_add, nI_clamp (by omega), show h * 6 + i = 6 * h + i by omega, hN.2 h i (by omega) (by omega), hu, nI_1]
            refine ⟨vp_in_nI (by omega) (by decide), ite_go (fun c => ihf (i + 1) (by omega) (fun j hj => ?_)) (fun c => ?_)⟩
            · by_cases e : j = i
              · subst e; exact c.symm
              · exact hm j (by omega)
            · have nn : ¬ (∀ i, i < 6 → R.2.2.2.1 h i = nmOf T q i) := fun z => c (z i (by omega)).symm
              refine lX7_houseNamed_25 hr hs hG ?_
              rw [nI_1]
              exact ite_go (fun _ => ipos rfl (no nn)) (fun _ => ipos rfl (ipos rfl (no nn)))
          refine lX7_houseNamed_25 hr hs hG (ineg (nI_ge (b := 6) (by omega) (by decide)) (ineg (by decide) ?_))
          rw [nI_add]
          refine ineg (nI_pos (by omega)) ?_
          by_cases c : ten T q ≤ q + i
          · exact ipos (nI_le c (by omega)) (l74 0 (by unfold nmOf; rw [if_neg (by omega)]))
          · refine ineg (nI_ge (by omega) (by omega)) (ineg (nI_ge (b := 1600) (by omega) (by decide)) ⟨vp_in_nI (by omega) (by decide), l74 _ ?_⟩)
            rw [nI_clamp (by omega), hx _ (by omega)]
            unfold nmOf
            rw [if_pos (by omega)]
      exact inner 6 0 (by omega) (fun j hj => by omega)
  exact loop R.2.2.1 0 (by omega) hK
theorem c_nameNext {T : dT} {r q n d : Nat} {M : mm_M} {K : mm_M → Prop} (hr : r ∈ mm_Rls) (hG : mm_G M.2.2) (hn : T.2 ≤ 1600) (hx : ∀ j, j < T.2 → M.1 1 j = T.1 j) (hq : q ≤ T.2) (h2 : M.1 r 2 = nI n) (h7 : n < 7) (hK : ∀ m, offM (fun c j => c = r + 1 ∧ 6 * n ≤ j) M m → (∀ k, k < 6 → m.1 (r + 1) (6 * n + k) = nmOf T q k) → K m) : mm_CV mX7_nameNext d [.ref r, .ref 1, .int (nI q), .int (nI (ten T q))] M K := by
  have hs : mm_SH[1]? = some (0, 1600) := by decide +kernel
  have hb := ten_b hq
  have hr' := Rl_at hr
  refine rX7_nameNext (n1 := 1600) hr hs hG ?_
  have loop : ∀ (k i : Nat) (m : mm_M), i + k = 6 → offM (fun c j => c = r + 1 ∧ 6 * n ≤ j) M m → (∀ j, j < i → m.1 (r + 1) (6 * n + j) = nmOf T q j) → jX7_nameNext_3 d r 1 1600 (nI q) (nI (ten T q)) m K (nI q) (nI (ten T q)) (nI i) := by
    intro k
    induction k with
    | zero =>
      intro i m hi o hm
      obtain rfl : i = 6 := by omega
      have hGm : mm_G m.2.2 := by rw [o.2.2]; exact hG
      exact lX7_nameNext_3 hr hs hGm (ipos (by decide) (hK m o hm))
    | succ k ih =>
      intro i m hi o hm
      have hGm : mm_G m.2.2 := by rw [o.2.2]; exact hG
      have g2 : m.1 r 2 = nI n := by rw [o.1 _ _ (by omega)]; exact h2
      have e6 : nI n * 6 = nI (n * 6) := pk_mul n 6
      have put : ∀ x : Int32, x = nmOf T q i → jX7_nameNext_3 d r 1 1600 (nI q) (nI (ten T q)) (mm_uI m (r + 1) (n * 6 + i) x) K (nI q) (nI (ten T q)) (nI (i + 1)) := fun x hx' => by
        refine ih (i + 1) _ (by omega) (offM_tr o (offM_uI ⟨rfl, by omega⟩)) (fun j hj => ?_)
        by_cases e : j = i
        · subst e
          rw [show 6 * n + j = n * 6 + j by omega, uI_at]; exact hx'
        · rw [uI_j (by omega)]; exact hm j (by omega)
      refine lX7_nameNext_3 hr hs hGm (ineg (nI_ge (b := 6) (by omega) (by decide)) ?_)
      rw [g2, nI_add]
      refine ineg (nI_pos (by omega)) (ineg (nI_ge (b := 7) (by omega) (by decide)) (ineg (nI_pos (by omega)) ?_))
      by_cases c : ten T q ≤ q + i
      · refine ipos (nI_le c (by omega)) (lX7_nameNext_55 hr hs hGm (ipos rfl ?_))
        rw [g2, e6, nI_add, nI_clamp (by omega), nI_1]
        exact ⟨vp_in_nI (by omega) (by decide), put 0 (by unfold nmOf; rw [if_neg (by omega)])⟩
      · refine ineg (nI_ge (by omega) (by omega)) (ineg (nI_ge (b := 1600) (by omega) (by decide)) (lX7_nameNext_55 hr hs hGm (ineg (by decide) ?_)))
        rw [g2, e6, nI_add, nI_clamp (n := n * 6 + i) (by omega), nI_clamp (n := q + i) (by omega), nI_1]
        refine ⟨vp_in_nI (by omega) (by decide), vp_in_nI (by omega) (by decide), put _ ?_⟩
        rw [o.1 _ _ (by omega), hx _ (by omega)]
        unfold nmOf
        rw [if_pos (by omega)]
  exact loop 6 0 M (by omega) offM_rf (fun j hj => by omega)
theorem c_addNext {r n d : Nat} {x y : Int32} {M : mm_M} {K : mm_M → Prop} (hr : r ∈ mm_Rls) (hG : mm_G M.2.2) (h2 : M.1 r 2 = nI n) (h7 : n < 7) (hK : ∀ m, offM (fun c j => (c = r ∧ j = 2) ∨ (c = r + 2 ∧ j = n) ∨ (c = r + 3 ∧ j = n)) M m → m.1 r 2 = nI (n + 1) → m.1 (r + 2) n = x → m.1 (r + 3) n = y → K m) : mm_CV mX7_addNext d [.ref r, .int x, .int y] M K := by
  have hr' := Rl_at hr
  refine rX7_addNext hr hG ?_
  rw [h2, nI_clamp (by omega), uI_c (show r ≠ r + 2 by omega), h2, nI_clamp (by omega), uI_c (show r ≠ r + 3 by omega), uI_c (show r ≠ r + 2 by omega), h2, nI_1]
  refine ineg (nI_pos (by omega)) (ineg (nI_ge (b := 7) (by omega) (by decide)) ⟨vp_in_nI (by omega) (by decide), vp_in_nI (by omega) (by decide), hK _ ?_ (uI_at _ _ _ _) ?_ ?_⟩)
  · exact offM_tr (offM_tr (offM_uI (by omega)) (offM_uI (by omega))) (offM_uI (by omega))
  · rw [uI_c (show r + 2 ≠ r by omega), uI_c (show r + 2 ≠ r + 3 by omega), uI_at]
  · rw [uI_c (show r + 3 ≠ r by omega), uI_at]
