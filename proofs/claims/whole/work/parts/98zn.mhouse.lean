/-! ===== the reference reads a house ===== -/
def mNa (f : Nat → Int32) (x : Int64) : Prop := ∃ n, 1 ≤ n ∧ n ≤ 6 ∧ (∀ k, k < n → inI 1 26 (f k)) ∧ (∀ k, n ≤ k → f k = 0) ∧ x = lN (nameN f n)
/-- what is told so far -/
def mDr (R : dR) (M : mm_M) : Prop := M.1 164 37 = nI R.2.2.1 ∧ M.1 191 0 = R.1 ∧ M.1 191 1 = R.2.1 ∧ (∀ h, h < R.2.2.1 → mNa (R.2.2.2.1 h) (M.2.1 192 h) ∧ M.1 193 h = R.2.2.2.2.1 h ∧ M.1 194 h = R.2.2.2.2.2.1 h) ∧ (∀ a b, a < 7 → b < 7 → a ≠ b → M.1 195 (pr a b) = R.2.2.2.2.2.2.1 a b) ∧ (∀ k, k < 5 → (R.2.2.2.2.2.2.2.1 k = none → M.1 196 k = -1) ∧ ∀ C, R.2.2.2.2.2.2.2.1 k = some C → ∃ f e : Nat, M.1 196 k = nI f ∧ M.1 197 k = nI e ∧ f + C.length = e ∧ e ≤ R.2.2.2.2.2.2.2.2 ∧ ∀ (j c : Nat), C[j]? = some c → M.1 198 (f + j) = nI c) ∧ M.1 164 46 = nI R.2.2.2.2.2.2.2.2
def mDs (T : dT) (q : Nat) (R : dR) (i : Nat) (M : mm_M) : Prop := mLx T q M ∧ mWd M ∧ mDr R M ∧ M.1 164 47 = nI i
def wMd (c j : Nat) : Prop := wQs c j ∨ (c = 164 ∧ (j = 35 ∨ j = 37 ∨ j = 46 ∨ j = 47 ∨ j = 49)) ∨ (c = 191 ∧ j < 2) ∨ (c = 192 ∧ j < 7) ∨ c = 193 ∨ (c = 194 ∧ j < 7) ∨ c = 195 ∨ (c = 196 ∧ j < 5) ∨ (c = 197 ∧ j < 5) ∨ (c = 198 ∧ j < 1600)
theorem wNm_D {M m : mm_M} (o : offM wNm M m) : offM wMd M m := offM_mono o (fun c j z => by unfold wNm at z; unfold wMd wQs wLx; omega)
theorem wLx_D {M m : mm_M} (o : offM wLx M m) : offM wMd M m := wNm_D (wLx_N o)
theorem mDr_off {W : Nat → Nat → Prop} {R : dR} {M m : mm_M} (h : mDr R M) (o : offM W M m) (hW : ∀ c j, W c j → ¬ ((c = 164 ∧ (j = 37 ∨ j = 46)) ∨ (191 ≤ c ∧ c ≤ 198))) : mDr R m := by
  obtain ⟨h1, h2, h3, h4, h5, h6, h7⟩ := h
  have g : ∀ c j, ((c = 164 ∧ (j = 37 ∨ j = 46)) ∨ (191 ≤ c ∧ c ≤ 198)) → m.1 c j = M.1 c j ∧ m.2.1 c j = M.2.1 c j := fun c j q => ⟨o.1 c j (fun z => hW c j z q), o.2.1 c j (fun z => hW c j z q)⟩
  refine ⟨by rw [(g _ _ (by omega)).1]; exact h1, by rw [(g _ _ (by omega)).1]; exact h2, by rw [(g _ _ (by omega)).1]; exact h3, fun h hh => by rw [(g 192 _ (by omega)).2, (g 193 _ (by omega)).1, (g 194 _ (by omega)).1]; exact h4 h hh, fun a b ha hb hab => by rw [(g _ _ (by omega)).1]; exact h5 a b ha hb hab, fun k hk => ⟨fun z => by rw [(g _ _ (by omega)).1]; exact (h6 k hk).1 z, fun C hC => ?_⟩, by rw [(g _ _ (by omega)).1]; exact h7⟩
  obtain ⟨f, e, q1, q2, q3, q4, q5⟩ := (h6 k hk).2 C hC
  exact ⟨f, e, by rw [(g _ _ (by omega)).1]; exact q1, by rw [(g _ _ (by omega)).1]; exact q2, q3, q4, fun j c hj => by rw [(g _ _ (by omega)).1]; exact q5 j c hj⟩
theorem mDs_n {T : dT} {q q' i : Nat} {R : dR} {M m : mm_M} (h : mDs T q R i M) (o : offM wNm M m) (l : mLx T q' m) : mDs T q' R i m := ⟨l, mWd_m h.2.1 o (fun c j z => by unfold wNm at z; omega), mDr_off h.2.2.1 o (fun c j z => by unfold wNm at z; omega), by rw [o.1 _ _ (by unfold wNm; omega)]; exact h.2.2.2⟩
theorem mDs_x {T : dT} {q q' i : Nat} {R : dR} {M m : mm_M} (h : mDs T q R i M) (o : offM wLx M m) (l : mLx T q' m) : mDs T q' R i m := mDs_n h (wLx_N o) l
/-- is it this name -/
theorem m_same {R : dR} {f : Nat → Int32} {x y : Int64} {h : Nat} (hx : mNa (R.2.2.2.1 h) x) (hy : mNa f y) : x = y ↔ sameB R f h = true := by
  obtain ⟨n, a1, a2, a3, a4, rfl⟩ := hx
  obtain ⟨m, b1, b2, b3, b4, rfl⟩ := hy
  rw [name_same a2 a3 a4 b2 b3 b4, sameB_i]
theorem nm_Na {T : dT} {q : Nat} (hq : q ≤ T.2) (h : nmX T q = none) : mNa (nmOf T q) (lN (nameN (nmOf T q) (ten T q - q))) := by
  obtain ⟨w1, w2, w3, w4, w5, w6, w7, w8⟩ := nm_v hq h
  exact ⟨_, by omega, w4, w7, w8, rfl⟩
/-- behind a name: the houses' names are looked through -/
theorem m_38 {T : dT} {d q1 i : Nat} {x1 : Int32} {y : Int64} {R : dR} {M : mm_M} {K : mm_M → Prop} (hG : mm_G M.2.2) (hD : mDs T (nxt T q1) R i M) (hn : T.2 ≤ 1600) (hq1 : q1 ≤ T.2) (h7 : R.2.2.1 ≤ 7) (h35 : M.1 164 35 = nI q1) (hy : mNa (nmOf T q1) y)
    (h1 : fndN R (nmOf T q1) = none → jX12_houseTold_38 d x1 M K y (nI R.2.2.1)) (h2 : ∀ b, fndN R (nmOf T q1) = some b → ∀ m, offM wLx M m → mXs 3 q1 m → jX12_houseTold_38 d x1 m K y (nI R.2.2.1)) : jX12_houseTold_38 d x1 M K y 0 := by
  have hbad : M.1 164 5 = 0 := by obtain ⟨p, h⟩ := hD.1; exact h.2.1
  have xl : ∀ (k h : Nat) (m : mm_M), h + k = R.2.2.1 → offM wLx M m → mXs 3 q1 m → jX12_houseTold_38 d x1 m K y (nI R.2.2.1) → jX12_houseTold_38 d x1 m K y (nI h) := by
    intro k
    induction k with
    | zero =>
      intro h m hh o x go
      obtain rfl : h = R.2.2.1 := by omega
      exact go
    | succ k ih =>
      intro h m hh o x go
      refine lX12_houseTold_38 (by rw [o.2.2]; exact hG) ?_
      rw [o.1 164 37 (by unfold wLx; omega), hD.2.2.1.1, nI_1]
      exact ineg (nI_ge (by omega) (by omega)) (ineg (mXn0 x) (ih (h + 1) m (by omega) o x go))
  have loop : ∀ (k h : Nat), h + k = R.2.2.1 → (fnF (sameB R (nmOf T q1)) k h = none → jX12_houseTold_38 d x1 M K y (nI R.2.2.1)) → (∀ b, fnF (sameB R (nmOf T q1)) k h = some b → ∀ m, offM wLx M m → mXs 3 q1 m → jX12_houseTold_38 d x1 m K y (nI R.2.2.1)) → jX12_houseTold_38 d x1 M K y (nI h) := by
    intro k
    induction k with
    | zero =>
      intro h hh a1 a2
      obtain rfl : h = R.2.2.1 := by omega
      exact a1 rfl
    | succ k ih =>
      intro h hh a1 a2
      have hs := m_same (hD.2.2.1.2.2.2.1 h (by omega)).1 hy
      have ef : fnF (sameB R (nmOf T q1)) (k + 1) h = if sameB R (nmOf T q1) h = true then some h else fnF (sameB R (nmOf T q1)) k (h + 1) := rfl
      rw [ef] at a1 a2
      refine lX12_houseTold_38 hG ?_
      rw [hD.2.2.1.1, nI_clamp (by omega), nI_1, h35]
      refine ineg (nI_ge (by omega) (by omega)) (ipos hbad ⟨vp_in_nI (by omega) (by decide), ite_go (fun c => ?_) (fun c => ?_)⟩)
      · rw [if_pos (hs.mp c)] at a2
        exact m_failP (k := 3) (p := q1) hG hbad (by omega) (by omega) (fun m o x => xl k (h + 1) m (by omega) o x (a2 h rfl m o x))
      · rw [if_neg (fun z => c (hs.mpr z))] at a1 a2
        exact ih (h + 1) (by omega) a1 a2
  exact loop R.2.2.1 0 (by omega) h1 h2
set_option maxHeartbeats 2000000 in
theorem m_house {T : dT} {q i d : Nat} {R : dR} {M0 M : mm_M} {K : mm_M → Prop} (hG : mm_G M.2.2) (oM : offM wMd M0 M) (hD : mDs T (nxt T q) R i M) (v : vR T q R) (hK : stK (houseB T q R) (fun q' R' => ∀ m, offM wMd M0 m → mDs T q' R' i m → K m) (fun k p => ∀ m, offM wMd M0 m → mXs k p m → K m)) : mm_CV mX12_houseTold (d + 5) [.ref 164, .int (nI q)] M K := by
  obtain ⟨v1, v2, v3, v4, v5, v6, v7, v8, v9, v10, v11, v12, v13, hq⟩ := id v
  have hbad : M.1 164 5 = 0 := by obtain ⟨p, h⟩ := hD.1; exact h.2.1
  have hn : T.2 ≤ 1600 := by obtain ⟨p, h⟩ := hD.1; exact h.1.2.1
  have n1 := nxt_b hq
  have n2 := nxt_b n1.2.1
  have n3 := nxt_b n2.2.1
  have n4 := nxt_b n3.2.1
  have n5 := nxt_b n4.2.1
  have G : ∀ m, offM wMd M m → mm_G m.2.2 := fun m o => by rw [o.2.2]; exact hG
  refine rX12_houseTold hG (ipos hbad ?_)
  unfold houseB at hK
  rw [hD.2.2.1.1]
  by_cases c7 : R.2.2.1 = 7
  · rw [if_pos c7] at hK
    refine ipos (by rw [c7]; rfl) (m_failP (k := 5) (p := q) hG hbad (by omega) (by omega) (fun m o x => ineg (mXn0 x) (hK m (offM_tr oM (wLx_D o)) x)))
  · rw [if_neg c7] at hK
    refine ineg (fun z => c7 ((nI_eq (a := R.2.2.1) (b := 7) (by omega) (by decide)).mp z)) (ipos hbad ?_)
    -- with a fault
    have tailX : ∀ (k p : Nat) (x1 : Int32) (y : Int64) (m : mm_M), offM wMd M m → m.1 164 37 = nI R.2.2.1 → mXs k p m → (∀ m, offM wMd M0 m → mXs k p m → K m) → jX12_houseTold_38 (d + 4) x1 m K y (nI R.2.2.1) := fun k p x1 y m o e37 x no => by
      refine lX12_houseTold_38 (G m o) ?_
      rw [e37]
      exact ipos (nI_le (Nat.le_refl _) (by omega)) (m_asksDX (i := 2) (d := d + 3) (by omega) (G m o) x (m_numX (d := d + 3) (G m o) x (m_asksDX (i := 3) (d := d + 3) (by omega) (G m o) x (m_numX (d := d + 3) (G m o) x (ineg (mXn0 x) (no m (offM_tr oM o) x))))))
    have lpX : ∀ (k p : Nat) (x1 : Int32) (y : Int64) (m : mm_M), offM wMd M m → m.1 164 37 = nI R.2.2.1 → mXs k p m → (∀ m, offM wMd M0 m → mXs k p m → K m) → ∀ (f h : Nat), h + f = R.2.2.1 → jX12_houseTold_38 (d + 4) x1 m K y (nI h) := fun k p x1 y m o e37 x no => by
      intro f
      induction f with
      | zero =>
        intro h hh
        obtain rfl : h = R.2.2.1 := by omega
        exact tailX k p x1 y m o e37 x no
      | succ f ih =>
        intro h hh
        refine lX12_houseTold_38 (G m o) ?_
        rw [e37, nI_1]
        exact ineg (nI_ge (by omega) (by omega)) (ineg (mXn0 x) (ih (h + 1) (by omega)))
    refine m_name (d := d + 1) hG hD.1 hD.2.1 (fun hnm m1 o1 l1 e35 => ?_) (fun k p hnm m1 o1 x1 => ?_)
    · rw [hnm] at hK
      simp only at hK
      have D1 := mDs_n hD o1 l1
      have o1' := wNm_D o1
      refine m_38 (G m1 o1') D1 hn n1.2.1 v3 e35 (nm_Na n1.2.1 hnm) (fun hf => ?_) (fun b hf m2 o2 x2 => ?_)
      · rw [hf] at hK
        simp only at hK
        unfold wordF numF at hK
        have st : ∀ m, offM wLx m1 m → offM wMd M m ∧ mm_G m.2.2 := fun m o => ⟨offM_tr o1' (wLx_D o), by rw [o.2.2]; exact G m1 o1'⟩
        refine lX12_houseTold_38 (G m1 o1') ?_
        rw [D1.2.2.1.1]
        refine ipos (nI_le (Nat.le_refl _) (by omega)) (m_asksD (i := 2) (d := d + 1) (by omega) (G m1 o1') D1.1 D1.2.1 (fun hw m2 o2 l2 => ?_) (fun hw m2 o2 x2 => ?_))
        · rw [if_pos (show wdn T _ = 2 from hw)] at hK
          refine m_num (lo := 0) (hi := 99) (d := d + 3) (st m2 o2).2 l2 (by omega) (by omega) (fun hu m3 o3 l3 => ?_) (fun k p hu z m3 o3 x3 => ?_)
          · rw [hu] at hK
            simp only at hK
            have o3' := offM_tr o2 o3
            have D3 := mDs_x D1 o3' l3
            refine m_asksD (i := 3) (d := d + 1) (by omega) (st m3 o3').2 l3 D3.2.1 (fun hw2 m4 o4 l4 => ?_) (fun hw2 m4 o4 x4 => ?_)
            · rw [if_pos (show wdn T _ = 3 from hw2)] at hK
              have o4' := offM_tr o3' o4
              refine m_num (lo := 0) (hi := 9) (d := d + 3) (st m4 o4').2 l4 (by omega) (by omega) (fun hu2 m5 o5 l5 => ?_) (fun k p hu2 z m5 o5 x5 => ?_)
              · rw [hu2] at hK
                have hK : ∀ m, offM wMd M0 m → mDs T (nxt T (nxt T (nxt T (nxt T (nxt T (nxt T q)))))) (addH R (nmOf T (nxt T q)) (vlu T (nxt T (nxt T (nxt T q)))) (vlu T (nxt T (nxt T (nxt T (nxt T (nxt T q))))))) i m → K m := hK
                have o5' := offM_tr o4' o5
                have D5 := mDs_x D1 o5' l5
                obtain ⟨w1, w2⟩ := st m5 o5'
                have hbad5 : m5.1 164 5 = 0 := by obtain ⟨p, h⟩ := l5; exact h.2.1
                have e37 := D5.2.2.1.1
                refine ipos hbad5 ?_
                have u1 : (mm_uL m5 192 R.2.2.1 (lN (nameN (nmOf T (nxt T q)) (ten T (nxt T q) - nxt T q)))).1 164 37 = nI R.2.2.1 := e37
                rw [e37, nI_clamp (by omega), u1, nI_clamp (by omega), uI_c (c := 164) (by decide), u1, nI_clamp (by omega), uI_c (c := 164) (by decide), uI_c (c := 164) (by decide), u1, nI_1]
                refine ⟨vp_in_nI (by omega) (by decide), vp_in_nI (by omega) (by decide), vp_in_nI (by omega) (by decide), ?_⟩
                have o6 : offM (fun c j => (c = 192 ∧ j = R.2.2.1) ∨ (c = 193 ∧ j = R.2.2.1) ∨ (c = 194 ∧ j = R.2.2.1) ∨ (c = 164 ∧ j = 37)) m5 (mm_uI (mm_uI (mm_uI (mm_uL m5 192 R.2.2.1 (lN (nameN (nmOf T (nxt T q)) (ten T (nxt T q) - nxt T q)))) 193 R.2.2.1 (vlu T (nxt T (nxt T (nxt T q))))) 194 R.2.2.1 (vlu T (nxt T (nxt T (nxt T (nxt T (nxt T q))))))) 164 37 (nI (R.2.2.1 + 1))) := offM_tr (offM_tr (offM_tr (offM_uL (by omega)) (offM_uI (by omega))) (offM_uI (by omega))) (offM_uI (by omega))
                have f37 : (mm_uI (mm_uI (mm_uI (mm_uL m5 192 R.2.2.1 (lN (nameN (nmOf T (nxt T q)) (ten T (nxt T q) - nxt T q)))) 193 R.2.2.1 (vlu T (nxt T (nxt T (nxt T q))))) 194 R.2.2.1 (vlu T (nxt T (nxt T (nxt T (nxt T (nxt T q))))))) 164 37 (nI (R.2.2.1 + 1))).1 164 37 = nI (R.2.2.1 + 1) := uI_at _ _ _ _
                have f194 : (mm_uI (mm_uI (mm_uI (mm_uL m5 192 R.2.2.1 (lN (nameN (nmOf T (nxt T q)) (ten T (nxt T q) - nxt T q)))) 193 R.2.2.1 (vlu T (nxt T (nxt T (nxt T q))))) 194 R.2.2.1 (vlu T (nxt T (nxt T (nxt T (nxt T (nxt T q))))))) 164 37 (nI (R.2.2.1 + 1))).1 194 R.2.2.1 = vlu T (nxt T (nxt T (nxt T (nxt T (nxt T q))))) := by rw [uI_c (by decide), uI_at]
                have f193 : (mm_uI (mm_uI (mm_uI (mm_uL m5 192 R.2.2.1 (lN (nameN (nmOf T (nxt T q)) (ten T (nxt T q) - nxt T q)))) 193 R.2.2.1 (vlu T (nxt T (nxt T (nxt T q))))) 194 R.2.2.1 (vlu T (nxt T (nxt T (nxt T (nxt T (nxt T q))))))) 164 37 (nI (R.2.2.1 + 1))).1 193 R.2.2.1 = vlu T (nxt T (nxt T (nxt T q))) := by rw [uI_c (by decide), uI_c (by decide), uI_at]
                have f192 : (mm_uI (mm_uI (mm_uI (mm_uL m5 192 R.2.2.1 (lN (nameN (nmOf T (nxt T q)) (ten T (nxt T q) - nxt T q)))) 193 R.2.2.1 (vlu T (nxt T (nxt T (nxt T q))))) 194 R.2.2.1 (vlu T (nxt T (nxt T (nxt T (nxt T (nxt T q))))))) 164 37 (nI (R.2.2.1 + 1))).2.1 192 R.2.2.1 = lN (nameN (nmOf T (nxt T q)) (ten T (nxt T q) - nxt T q)) := uL_at _ _ _ _
                generalize mm_uI (mm_uI (mm_uI (mm_uL m5 192 R.2.2.1 (lN (nameN (nmOf T (nxt T q)) (ten T (nxt T q) - nxt T q)))) 193 R.2.2.1 (vlu T (nxt T (nxt T (nxt T q))))) 194 R.2.2.1 (vlu T (nxt T (nxt T (nxt T (nxt T (nxt T q))))))) 164 37 (nI (R.2.2.1 + 1)) = m6 at o6 f37 f194 f193 f192 ⊢
                have o6' : offM wMd M0 m6 := offM_tr (offM_tr oM w1) (offM_mono o6 (fun c j z => by unfold wMd; omega))
                refine hK m6 o6' ⟨mLx_off l5 o6 (fun c j z => by omega), mWd_m D5.2.1 o6 (fun c j z => by omega), ?_, by rw [o6.1 _ _ (by omega)]; exact D5.2.2.2⟩
                obtain ⟨d1, d2, d3, d4, d5, d6, d7⟩ := D5.2.2.1
                refine ⟨f37, by rw [o6.1 _ _ (by omega)]; exact d2, by rw [o6.1 _ _ (by omega)]; exact d3, fun h hh => ?_, fun a b ha hb hab => by rw [o6.1 _ _ (by omega)]; exact d5 a b ha hb hab, fun k hk => ⟨fun z => by rw [o6.1 _ _ (by omega)]; exact (d6 k hk).1 z, fun C hC => ?_⟩, by rw [o6.1 _ _ (by omega)]; exact d7⟩
                · have hh : h < R.2.2.1 + 1 := hh
                  show mNa (setF R.2.2.2.1 R.2.2.1 (nmOf T (nxt T q)) h) _ ∧ _ = setF R.2.2.2.2.1 R.2.2.1 _ h ∧ _ = setF R.2.2.2.2.2.1 R.2.2.1 _ h
                  by_cases e : h = R.2.2.1
                  · subst e
                    rw [setF_at, setF_at, setF_at, f192]
                    exact ⟨nm_Na n1.2.1 hnm, f193, f194⟩
                  · rw [setF_ne e, setF_ne e, setF_ne e, o6.2.1 192 h (by omega), o6.1 193 h (by omega), o6.1 194 h (by omega)]
                    exact d4 h (by omega)
                · obtain ⟨f, e, q1, q2, q3, q4, q5⟩ := (d6 k hk).2 C hC
                  exact ⟨f, e, by rw [o6.1 _ _ (by omega)]; exact q1, by rw [o6.1 _ _ (by omega)]; exact q2, q3, q4, fun j c hj => by rw [o6.1 _ _ (by omega)]; exact q5 j c hj⟩
              · rw [hu2] at hK
                exact ineg (mXn0 x5) (hK m5 (offM_tr oM (st m5 (offM_tr o4' o5)).1) x5)
            · rw [if_neg (show ¬ wdn T _ = 3 from hw2)] at hK
              have o4' := offM_tr o3' o4
              exact m_numX (d := d + 3) (st m4 o4').2 x4 (ineg (mXn0 x4) (hK m4 (offM_tr oM (st m4 o4').1) x4))
          · rw [hu] at hK
            have o3' := offM_tr o2 o3
            exact m_asksDX (i := 3) (d := d + 3) (by omega) (st m3 o3').2 x3 (m_numX (d := d + 3) (st m3 o3').2 x3 (ineg (mXn0 x3) (hK m3 (offM_tr oM (st m3 o3').1) x3)))
        · rw [if_neg (show ¬ wdn T _ = 2 from hw)] at hK
          exact m_numX (d := d + 3) (st m2 o2).2 x2 (m_asksDX (i := 3) (d := d + 3) (by omega) (st m2 o2).2 x2 (m_numX (d := d + 3) (st m2 o2).2 x2 (ineg (mXn0 x2) (hK m2 (offM_tr oM (st m2 o2).1) x2))))
      · rw [hf] at hK
        exact tailX 3 (nxt T q) _ _ m2 (offM_tr o1' (wLx_D o2)) (by rw [o2.1 _ _ (by unfold wLx; omega)]; exact D1.2.2.1.1) x2 hK
    · rw [hnm] at hK
      exact lpX k p _ _ m1 (wNm_D o1) (by rw [o1.1 _ _ (by unfold wNm; omega)]; exact hD.2.2.1.1) x1 hK R.2.2.1 0 (by omega)
