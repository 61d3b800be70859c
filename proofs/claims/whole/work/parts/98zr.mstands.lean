/-! ===== the reference: what was told stands ===== -/
section
variable {d : Nat} {M : mm_M} {K : mm_M → Prop}
theorem st_224 (hG : mm_G M.2.2) (hK : ∀ m, offM (fun c j => (c = 199 ∧ 22 ≤ j ∧ j < 43) ∨ (c = 164 ∧ (j = 79 ∨ j = 72))) M m → (∀ j, j < 21 → m.1 199 (22 + j) = M.1 195 j) → m.1 164 79 = 0 → m.1 164 72 = 0 → K m) : jX12_stands_224 d M K 0 := by
  have loop : ∀ (k n : Nat) (m : mm_M), n + k = 21 → offM (fun c j => c = 199 ∧ 22 ≤ j ∧ j < 43) M m → (∀ j, j < n → m.1 199 (22 + j) = M.1 195 j) → jX12_stands_224 d m K (nI n) := by
    intro k
    induction k with
    | zero =>
      intro n m hn o h
      obtain rfl : n = 21 := by omega
      refine lX12_stands_224 (by rw [o.2.2]; exact hG) (ipos (by decide) ?_)
      have o2 : offM (fun c j => c = 164 ∧ (j = 79 ∨ j = 72)) m (mm_uI (mm_uI m 164 79 0) 164 72 0) := offM_tr (offM_uI (by omega)) (offM_uI (by omega))
      exact hK _ (offM_tr (offM_mono o (fun c j z => Or.inl z)) (offM_mono o2 (fun c j z => Or.inr z))) (fun j hj => by rw [o2.1 _ _ (by omega)]; exact h j hj) (by rw [uI_j (by decide), uI_at]) (uI_at _ _ _ _)
    | succ k ih =>
      intro n m hn o h
      refine lX12_stands_224 (by rw [o.2.2]; exact hG) ?_
      rw [n22, nI_clamp (n := n) (by omega), nI_clamp (n := 22 + n) (by omega), nI_1]
      refine ineg (nI_ge (b := 21) (by omega) (by decide)) ⟨vp_in_nI (by omega) (by decide), vp_in_nI (by omega) (by decide), ih (n + 1) _ (by omega) (offM_tr o (offM_uI (by omega))) (fun j hj => ?_)⟩
      by_cases e : j = n
      · subst e
        rw [uI_at, o.1 _ _ (by omega)]
      · rw [uI_j (by omega)]; exact h j (by omega)
  exact loop 21 0 M (by omega) offM_rf (fun j hj => by omega)
theorem st_181 {n : Nat} (hG : mm_G M.2.2) (h38 : M.1 164 38 = nI n) (hn : n ≤ 7) (hK : ∀ m, offM (fun c j => c = 199 ∧ ∃ h, h < n ∧ (j = 1 + 3 * h ∨ j = 2 + 3 * h)) M m → (∀ h, h < n → m.1 199 (1 + 3 * h) = 1 ∧ m.1 199 (2 + 3 * h) = M.1 193 h) → jX12_stands_224 d m K 0) : jX12_stands_181 d M K 0 := by
  have loop : ∀ (k h : Nat) (m : mm_M), h + k = n → offM (fun c j => c = 199 ∧ ∃ h, h < n ∧ (j = 1 + 3 * h ∨ j = 2 + 3 * h)) M m → (∀ x, x < h → m.1 199 (1 + 3 * x) = 1 ∧ m.1 199 (2 + 3 * x) = M.1 193 x) → jX12_stands_181 d m K (nI h) := by
    intro k
    induction k with
    | zero =>
      intro h m hh o e
      obtain rfl : h = n := by omega
      refine lX12_stands_181 (by rw [o.2.2]; exact hG) ?_
      rw [o.1 164 38 (by omega), h38]
      exact ipos (nI_le (Nat.le_refl _) (by omega)) (hK m o e)
    | succ k ih =>
      intro h m hh o e
      refine lX12_stands_181 (by rw [o.2.2]; exact hG) ?_
      rw [o.1 164 38 (by omega), h38, mx1 h (by omega), mx2 h (by omega), nI_clamp (n := 1 + 3 * h) (by omega), nI_clamp (n := 2 + 3 * h) (by omega), nI_clamp (n := h) (by omega), nI_1, uI_c (c := 193) (by decide)]
      refine ineg (nI_ge (by omega) (by omega)) ⟨vp_in_nI (by omega) (by decide), vp_in_nI (by omega) (by decide), vp_in_nI (by omega) (by decide), ih (h + 1) _ (by omega) (offM_tr o (offM_tr (offM_uI ⟨rfl, h, by omega, Or.inl rfl⟩) (offM_uI ⟨rfl, h, by omega, Or.inr rfl⟩))) (fun x hx => ?_)⟩
      by_cases c : x = h
      · subst c
        exact ⟨by rw [uI_j (by omega), uI_at], by rw [uI_at, o.1 193 _ (by omega)]⟩
      · rw [uI_j (by omega), uI_j (by omega), uI_j (by omega), uI_j (by omega)]
        exact e x (by omega)
  exact loop n 0 M (by omega) offM_rf (fun x hx => by omega)
theorem st_159 (hG : mm_G M.2.2) (hK : ∀ m, offM (fun c j => c = 199) M m → (∀ j, j < 204 → m.1 199 j = 0) → jX12_stands_181 d m K 0) : jX12_stands_159 d M K 0 := by
  have loop : ∀ (k n : Nat) (m : mm_M), n + k = 204 → offM (fun c j => c = 199) M m → (∀ j, j < n → m.1 199 j = 0) → jX12_stands_159 d m K (nI n) := by
    intro k
    induction k with
    | zero =>
      intro n m hn o h
      obtain rfl : n = 204 := by omega
      exact lX12_stands_159 (by rw [o.2.2]; exact hG) (ipos (by decide) (hK m o h))
    | succ k ih =>
      intro n m hn o h
      refine lX12_stands_159 (by rw [o.2.2]; exact hG) ?_
      rw [nI_clamp (by omega), nI_1]
      refine ineg (nI_ge (b := 204) (by omega) (by decide)) ⟨vp_in_nI (by omega) (by decide), ih (n + 1) _ (by omega) (offM_tr o (offM_uI rfl)) (fun j hj => ?_)⟩
      by_cases e : j = n
      · subst e; exact uI_at _ _ _ _
      · rw [uI_j e]; exact h j (by omega)
  exact loop 204 0 M (by omega) offM_rf (fun j hj => by omega)
theorem st_127 {L : Nat} (hG : mm_G M.2.2) (h46 : M.1 164 46 = nI L) (hL : L ≤ 1600) (hK : ∀ m, offM (fun c j => c = 198 ∧ 1600 ≤ j) M m → (∀ j, j < L → m.1 198 (1600 + j) = M.1 198 j) → jX12_stands_159 d m K 0) : jX12_stands_127 d M K 0 := by
  have loop : ∀ (k n : Nat) (m : mm_M), n + k = L → offM (fun c j => c = 198 ∧ 1600 ≤ j) M m → (∀ j, j < n → m.1 198 (1600 + j) = M.1 198 j) → jX12_stands_127 d m K (nI n) := by
    intro k
    induction k with
    | zero =>
      intro n m hn o h
      obtain rfl : n = L := by omega
      refine lX12_stands_127 (by rw [o.2.2]; exact hG) ?_
      rw [o.1 164 46 (by omega), h46]
      exact ipos (nI_le (Nat.le_refl _) (by omega)) (hK m o h)
    | succ k ih =>
      intro n m hn o h
      have e16 : 1600 + nI n = nI (1600 + n) := nI_add 1600 n
      refine lX12_stands_127 (by rw [o.2.2]; exact hG) ?_
      rw [o.1 164 46 (by omega), h46, e16, nI_clamp (n := n) (by omega), nI_clamp (n := 1600 + n) (by omega), nI_1]
      refine ineg (nI_ge (by omega) (by omega)) ⟨vp_in_nI (by omega) (by decide), vp_in_nI (by omega) (by decide), ih (n + 1) _ (by omega) (offM_tr o (offM_uI (by omega))) (fun j hj => ?_)⟩
      by_cases e : j = n
      · subst e
        rw [uI_at, o.1 _ _ (by omega)]
      · rw [uI_j (by omega)]; exact h j (by omega)
  exact loop L 0 M (by omega) offM_rf (fun j hj => by omega)
theorem st_83 (hG : mm_G M.2.2) (hK : ∀ m, offM (fun c j => (c = 192 ∨ c = 194) ∧ 7 ≤ j) M m → (∀ j, j < 7 → m.2.1 192 (7 + j) = M.2.1 192 j ∧ m.1 194 (7 + j) = M.1 194 j) → jX12_stands_127 d m K 0) : jX12_stands_83 d M K 0 := by
  have loop : ∀ (k n : Nat) (m : mm_M), n + k = 7 → offM (fun c j => (c = 192 ∨ c = 194) ∧ 7 ≤ j) M m → (∀ j, j < n → m.2.1 192 (7 + j) = M.2.1 192 j ∧ m.1 194 (7 + j) = M.1 194 j) → jX12_stands_83 d m K (nI n) := by
    intro k
    induction k with
    | zero =>
      intro n m hn o h
      obtain rfl : n = 7 := by omega
      exact lX12_stands_83 (by rw [o.2.2]; exact hG) (ipos (by decide) (hK m o h))
    | succ k ih =>
      intro n m hn o h
      refine lX12_stands_83 (by rw [o.2.2]; exact hG) ?_
      rw [n7, nI_clamp (n := n) (by omega), nI_clamp (n := 7 + n) (by omega), nI_1]
      refine ineg (nI_ge (b := 7) (by omega) (by decide)) ⟨vp_in_nI (by omega) (by decide), vp_in_nI (by omega) (by decide), vp_in_nI (by omega) (by decide), vp_in_nI (by omega) (by decide), ih (n + 1) _ (by omega) (offM_tr o (offM_tr (offM_uL (by omega)) (offM_uI (by omega)))) (fun j hj => ?_)⟩
      have oL : offM (fun c k => c = 192 ∧ k = 7 + n) m (mm_uL m 192 (7 + n) (m.2.1 192 n)) := offM_uL ⟨rfl, rfl⟩
      by_cases e : j = n
      · subst e
        refine ⟨?_, ?_⟩
        · show (mm_uL m 192 (7 + j) (m.2.1 192 j)).2.1 192 (7 + j) = _
          rw [uL_at, o.2.1 _ _ (by omega)]
        · rw [uI_at, oL.1 _ _ (by omega), o.1 _ _ (by omega)]
      · refine ⟨?_, ?_⟩
        · show (mm_uL m 192 (7 + n) (m.2.1 192 n)).2.1 192 (7 + j) = _
          rw [oL.2.1 _ _ (by omega)]; exact (h j (by omega)).1
        · rw [uI_j (by omega), oL.1 _ _ (by omega)]; exact (h j (by omega)).2
  exact loop 7 0 M (by omega) offM_rf (fun j hj => by omega)
theorem st_42 (hG : mm_G M.2.2) (hK : ∀ m, offM (fun c j => (c = 196 ∨ c = 197) ∧ 5 ≤ j) M m → (∀ j, j < 5 → m.1 196 (5 + j) = M.1 196 j ∧ m.1 197 (5 + j) = M.1 197 j) → jX12_stands_83 d m K 0) : jX12_stands_42 d M K 0 := by
  have loop : ∀ (k n : Nat) (m : mm_M), n + k = 5 → offM (fun c j => (c = 196 ∨ c = 197) ∧ 5 ≤ j) M m → (∀ j, j < n → m.1 196 (5 + j) = M.1 196 j ∧ m.1 197 (5 + j) = M.1 197 j) → jX12_stands_42 d m K (nI n) := by
    intro k
    induction k with
    | zero =>
      intro n m hn o h
      obtain rfl : n = 5 := by omega
      exact lX12_stands_42 (by rw [o.2.2]; exact hG) (ipos (by decide) (hK m o h))
    | succ k ih =>
      intro n m hn o h
      have e5 : 5 + nI n = nI (5 + n) := nI_add 5 n
      refine lX12_stands_42 (by rw [o.2.2]; exact hG) ?_
      rw [e5, nI_clamp (n := n) (by omega), nI_clamp (n := 5 + n) (by omega), nI_1, uI_c (c := 197) (by decide)]
      refine ineg (nI_ge (b := 5) (by omega) (by decide)) ⟨vp_in_nI (by omega) (by decide), vp_in_nI (by omega) (by decide), vp_in_nI (by omega) (by decide), vp_in_nI (by omega) (by decide), ih (n + 1) _ (by omega) (offM_tr o (offM_tr (offM_uI (by omega)) (offM_uI (by omega)))) (fun j hj => ?_)⟩
      by_cases e : j = n
      · subst e
        exact ⟨by rw [uI_c (by decide), uI_at, o.1 _ _ (by omega)], by rw [uI_at, o.1 _ _ (by omega)]⟩
      · rw [uI_c (c := 196) (by decide), uI_j (by omega), uI_j (by omega), uI_c (c := 197) (by decide)]
        exact h j (by omega)
  exact loop 5 0 M (by omega) offM_rf (fun j hj => by omega)
theorem st_15 (hG : mm_G M.2.2) (hK : ∀ m, offM (fun c j => c = 191 ∧ 2 ≤ j) M m → (∀ j, j < 2 → m.1 191 (2 + j) = M.1 191 j) → jX12_stands_42 d m K 0) : jX12_stands_15 d M K 0 := by
  have loop : ∀ (k n : Nat) (m : mm_M), n + k = 2 → offM (fun c j => c = 191 ∧ 2 ≤ j) M m → (∀ j, j < n → m.1 191 (2 + j) = M.1 191 j) → jX12_stands_15 d m K (nI n) := by
    intro k
    induction k with
    | zero =>
      intro n m hn o h
      obtain rfl : n = 2 := by omega
      exact lX12_stands_15 (by rw [o.2.2]; exact hG) (ipos (by decide) (hK m o h))
    | succ k ih =>
      intro n m hn o h
      have e5 : 2 + nI n = nI (2 + n) := nI_add 2 n
      refine lX12_stands_15 (by rw [o.2.2]; exact hG) ?_
      rw [e5, nI_clamp (n := n) (by omega), nI_clamp (n := 2 + n) (by omega), nI_1]
      refine ineg (nI_ge (b := 2) (by omega) (by decide)) ⟨vp_in_nI (by omega) (by decide), vp_in_nI (by omega) (by decide), ih (n + 1) _ (by omega) (offM_tr o (offM_uI (by omega))) (fun j hj => ?_)⟩
      by_cases e : j = n
      · subst e
        rw [uI_at, o.1 _ _ (by omega)]
      · rw [uI_j (by omega)]
        exact h j (by omega)
  exact loop 2 0 M (by omega) offM_rf (fun j hj => by omega)
end
def rU (R : dR) : dU := (R.1, R.2.2.1, R.2.2.2.2.2.1, codeT R)
def N0 (R : dR) : dN := (0, 2 ^ R.2.2.1 - 1, R.2.2.2.2.1, fun _ => 0, R.2.2.2.2.2.2.1)
def rA (R : dR) (r : Nat) : dRU := (true, rU R, R.2.2.2.1, R.2.1.toInt.toNat, r)
def wSt (c j : Nat) : Prop := (c = 164 ∧ (j = 48 ∨ j = 38 ∨ j = 79 ∨ j = 72)) ∨ (c = 191 ∧ 2 ≤ j) ∨ (c = 192 ∧ 7 ≤ j) ∨ (c = 194 ∧ 7 ≤ j) ∨ (c = 196 ∧ 5 ≤ j) ∨ (c = 197 ∧ 5 ≤ j) ∨ (c = 198 ∧ 1600 ≤ j) ∨ c = 199
set_option maxHeartbeats 2000000 in
theorem m_stands {T : dT} {q i d r : Nat} {R : dR} {M : mm_M} {K : mm_M → Prop} (hG : mm_G M.2.2) (hD : mDs T q R i M) (v : vR T q R) (hK : ∀ m, offM wSt M m → mRU (rA R r) m → mN (N0 R) m → mK [] m → m.1 164 79 = nI 0 → m.1 164 72 = nI 0 → K m) : mm_CV mX12_stands d [.ref 164] M K := by
  obtain ⟨v1, v2, v3, v4, v5, v6, v7, v8, v9, v10, v11, v12, v13, hq⟩ := id v
  have hn : T.2 ≤ 1600 := by obtain ⟨p, h⟩ := hD.1; exact h.1.2.1
  have hL : R.2.2.2.2.2.2.2.2 ≤ 1600 := by omega
  obtain ⟨d1, d2, d3, d4, d5, d6, d7⟩ := hD.2.2.1
  refine rX12_stands hG ?_
  rw [uI_j (by decide), d1]
  have o0 : offM (fun c j => c = 164 ∧ (j = 48 ∨ j = 38)) M (mm_uI (mm_uI M 164 48 1) 164 38 (nI R.2.2.1)) := offM_tr (offM_uI (by omega)) (offM_uI (by omega))
  have a48 : (mm_uI (mm_uI M 164 48 1) 164 38 (nI R.2.2.1)).1 164 48 = 1 := by rw [uI_j (by decide), uI_at]
  have a38 : (mm_uI (mm_uI M 164 48 1) 164 38 (nI R.2.2.1)).1 164 38 = nI R.2.2.1 := uI_at _ _ _ _
  generalize mm_uI (mm_uI M 164 48 1) 164 38 (nI R.2.2.1) = m0 at o0 a48 a38 ⊢
  have hG0 : mm_G m0.2.2 := by rw [o0.2.2]; exact hG
  refine st_15 hG0 (fun m1 o1 e1 => ?_)
  have a2 : m1.1 191 2 = R.1 := by
    have := e1 0 (by omega)
    rw [o0.1 _ _ (by omega), d2] at this
    exact this
  have a3 : m1.1 191 3 = R.2.1 := by
    have := e1 1 (by omega)
    rw [o0.1 _ _ (by omega), d3] at this
    exact this
  have hG1 : mm_G m1.2.2 := by rw [o1.2.2]; exact hG0
  refine st_42 hG1 (fun m2 o2 e2 => ?_)
  have hG2 : mm_G m2.2.2 := by rw [o2.2.2]; exact hG1
  refine st_83 hG2 (fun m3 o3 e3 => ?_)
  have hG3 : mm_G m3.2.2 := by rw [o3.2.2]; exact hG2
  refine st_127 (L := R.2.2.2.2.2.2.2.2) hG3 (by rw [o3.1 _ _ (by omega), o2.1 _ _ (by omega), o1.1 _ _ (by omega), o0.1 _ _ (by omega)]; exact d7) hL (fun m4 o4 e4 => ?_)
  have hG4 : mm_G m4.2.2 := by rw [o4.2.2]; exact hG3
  refine st_159 hG4 (fun m5 o5 e5 => ?_)
  have hG5 : mm_G m5.2.2 := by rw [o5.2.2]; exact hG4
  refine st_181 (n := R.2.2.1) hG5 (by rw [o5.1 _ _ (by omega), o4.1 _ _ (by omega), o3.1 _ _ (by omega), o2.1 _ _ (by omega), o1.1 _ _ (by omega)]; exact a38) v3 (fun m6 o6 e6 => ?_)
  have hG6 : mm_G m6.2.2 := by rw [o6.2.2]; exact hG5
  refine st_224 hG6 (fun m7 o7 e7 e79 e72 => ?_)
  have o6' : offM (fun c j => c = 199) m5 m6 := offM_mono o6 (fun c j z => z.1)
  have o57 : offM (fun c j => c = 199 ∨ (c = 164 ∧ (j = 79 ∨ j = 72))) m4 m7 := offM_tr (offM_tr (offM_mono o5 (fun c j z => by omega)) (offM_mono o6' (fun c j z => by omega))) (offM_mono o7 (fun c j z => by omega))
  have oo : offM wSt M m7 := by
    refine offM_tr (offM_tr (offM_tr (offM_tr (offM_tr (offM_mono o0 ?_) (offM_mono o1 ?_)) (offM_mono o2 ?_)) (offM_mono o3 ?_)) (offM_mono o4 ?_)) (offM_mono o57 ?_)
    all_goals (intro c j z; unfold wSt; omega)
  refine hK m7 oo ⟨?_, ⟨?_, ?_, fun h hh => ?_, fun k hk => ?_⟩, ?_, fun h hh => ?_⟩ ⟨?_, fun h hh => ?_, fun h hh => ?_, fun h hh => ?_, fun a b ha hb hab => ?_⟩ ⟨?_, by decide, fun k q hq => (by cases hq)⟩ e79 e72
  · rw [o57.1 _ _ (by omega), o4.1 _ _ (by omega), o3.1 _ _ (by omega), o2.1 _ _ (by omega), o1.1 _ _ (by omega)]; exact a48
  · rw [o57.1 _ _ (by omega), o4.1 _ _ (by omega), o3.1 _ _ (by omega), o2.1 _ _ (by omega)]; exact a2
  · rw [o57.1 _ _ (by omega), o4.1 _ _ (by omega), o3.1 _ _ (by omega), o2.1 _ _ (by omega), o1.1 _ _ (by omega)]; exact a38
  · have hh : h < R.2.2.1 := hh
    rw [o57.1 _ _ (by omega), o4.1 _ _ (by omega), (e3 h (by omega)).2, o2.1 _ _ (by omega), o1.1 _ _ (by omega), o0.1 _ _ (by omega)]
    exact (d4 h hh).2.2
  · show (m7.1 196 (5 + k) = -1 ∧ codeT R k = dfl k) ∨ ∃ f e : Nat, m7.1 196 (5 + k) = nI f ∧ m7.1 197 (5 + k) = nI e ∧ f + (codeT R k).length = e ∧ e ≤ 1600 ∧ ∀ j t, (codeT R k)[j]? = some t → vmc (m7.1 198 (1600 + (f + j))).toInt ∧ tau (m7.1 198 (1600 + (f + j))).toInt = t
    have g196 : m7.1 196 (5 + k) = M.1 196 k := by rw [o57.1 _ _ (by omega), o4.1 _ _ (by omega), o3.1 _ _ (by omega), (e2 k hk).1, o1.1 _ _ (by omega), o0.1 _ _ (by omega)]
    have g197 : m7.1 197 (5 + k) = M.1 197 k := by rw [o57.1 _ _ (by omega), o4.1 _ _ (by omega), o3.1 _ _ (by omega), (e2 k hk).2, o1.1 _ _ (by omega), o0.1 _ _ (by omega)]
    rw [g196, g197]
    cases hC : R.2.2.2.2.2.2.2.1 k with
    | none => exact Or.inl ⟨(d6 k hk).1 hC, by unfold codeT; rw [hC]⟩
    | some C =>
      obtain ⟨f, e, q1, q2, q3, q4, q5⟩ := (d6 k hk).2 C hC
      have ec : codeT R k = tas C := by unfold codeT; rw [hC]
      have hv := v12 k C hC
      rw [ec]
      refine Or.inr ⟨f, e, q1, q2, by unfold tas; rw [List.length_map]; exact q3, by omega, fun j t ht => ?_⟩
      unfold tas at ht
      rw [List.getElem?_map] at ht
      obtain ⟨c, c1, c2⟩ := Option.map_eq_some_iff.mp ht
      have hl : j < C.length := (List.getElem?_eq_some_iff.mp c1).1
      have hvc := hv.1 c (List.mem_of_getElem? c1)
      have hvm : vmc (c : Int) := by
        rcases hvc with z | ⟨z, -⟩
        · exact z
        · have := tkOf_lt k
          omega
      have hb : c ≤ 10999 := by unfold vmc at hvm; omega
      rw [o57.1 _ _ (by omega), e4 (f + j) (by omega), o3.1 _ _ (by omega), o2.1 _ _ (by omega), o1.1 _ _ (by omega), o0.1 _ _ (by omega), q5 j c c1, nI_toInt (by omega)]
      exact ⟨hvm, c2⟩
  · rw [o57.1 _ _ (by omega), o4.1 _ _ (by omega), o3.1 _ _ (by omega), o2.1 _ _ (by omega), a3]
    unfold inI at v2
    exact i32_nI (by omega)
  · have hh : h < R.2.2.1 := hh
    obtain ⟨n, n1, n2, n3, n4, n5⟩ := (d4 h hh).1
    refine ⟨n, n1, n2, n3, n4, ?_⟩
    rw [o57.2.1 _ _ (by omega), o4.2.1 _ _ (by omega), (e3 h (by omega)).1, o2.2.1 _ _ (by omega), o1.2.1 _ _ (by omega), o0.2.1 _ _ (by omega)]
    exact n5
  · rw [o7.1 _ _ (by omega), o6.1 _ _ (fun z => by obtain ⟨-, h, h1, h2⟩ := z; omega)]; exact e5 0 (by omega)
  · rw [o7.1 _ _ (by omega)]
    show _ = (if (2 ^ R.2.2.1 - 1).testBit h then (1 : Int32) else 0)
    rw [Nat.testBit_two_pow_sub_one]
    by_cases c : h < R.2.2.1
    · rw [(e6 h c).1, if_pos (decide_eq_true c)]
    · rw [if_neg (by simp; omega), o6.1 _ _ (fun z => by obtain ⟨-, x, h1, h2⟩ := z; omega)]; exact e5 _ (by omega)
  · rw [o7.1 _ _ (by omega)]
    show _ = R.2.2.2.2.1 h
    by_cases c : h < R.2.2.1
    · rw [(e6 h c).2, o5.1 _ _ (by omega), o4.1 _ _ (by omega), o3.1 _ _ (by omega), o2.1 _ _ (by omega), o1.1 _ _ (by omega), o0.1 _ _ (by omega)]
      exact (d4 h c).2.1
    · rw [v6 h (by omega), o6.1 _ _ (fun z => by obtain ⟨-, x, h1, h2⟩ := z; omega)]; exact e5 _ (by omega)
  · rw [o7.1 _ _ (by omega), o6.1 _ _ (fun z => by obtain ⟨-, x, h1, h2⟩ := z; omega)]; exact e5 _ (by omega)
  · have hp := pr_lt a ha b hb hab
    rw [e7 _ hp, o6.1 _ _ (by omega), o5.1 _ _ (by omega), o4.1 _ _ (by omega), o3.1 _ _ (by omega), o2.1 _ _ (by omega), o1.1 _ _ (by omega), o0.1 _ _ (by omega)]
    exact d5 a b ha hb hab
  · rw [o7.1 _ _ (by omega), o6.1 _ _ (fun z => by obtain ⟨-, x, h1, h2⟩ := z; omega)]; exact e5 _ (by omega)
