/-! ===== duchy: both sides' ends ===== -/
def wM0 (c j : Nat) : Prop := wMd c j ∨ (c = 164 ∧ (j = 1 ∨ j = 3))
theorem m_duchy0 {T : dT} {M : mm_M} {K : Int32 → mm_M → Prop} (hG : mm_G M.2.2) (hT : T.2 ≤ 1600) (h1 : M.1 164 1 = nI T.2) (hB : ∀ j, j < T.2 → M.1 165 j = T.1 j) (hw : mWd M) (h : ∀ (m : mm_M) (x : Int32), offM wM0 M m → m.1 164 1 = 0 → mLx T (rn T isBl 0) m → mWd m → mDr (x, R0.2) m → mm_CV mX12_duchyTold 899 [.ref 164] m (fun m92 => jX12_duchy_100 899 (mm_uI m92 164 47 1) K)) : mm_CI mX12_duchy 900 [.ref 164] M K := by
  refine rX12_duchy (d := 899) hG ?_
  have t1 : (1 : Int32).toNatClampNeg = 1 := rfl
  rw [t1]
  have o : offM wM0 M (mm_uI (mm_uI (mm_uI (mm_uI (mm_uI (mm_uI (mm_uI (mm_uI (mm_uI M 164 3 (M.1 164 1)) 164 1 0) 164 2 0) 164 4 (-1)) 164 5 0) 164 6 (-1)) 164 46 0) 164 37 0) 191 1 0) := by
    refine offM_tr (offM_tr (offM_tr (offM_tr (offM_tr (offM_tr (offM_tr (offM_tr (offM_uI ?_) (offM_uI ?_)) (offM_uI ?_)) (offM_uI ?_)) (offM_uI ?_)) (offM_uI ?_)) (offM_uI ?_)) (offM_uI ?_)) (offM_uI ?_)
    all_goals (unfold wM0 wMd wQs wLx; omega)
  have f3 : (mm_uI (mm_uI (mm_uI (mm_uI (mm_uI (mm_uI (mm_uI (mm_uI (mm_uI M 164 3 (M.1 164 1)) 164 1 0) 164 2 0) 164 4 (-1)) 164 5 0) 164 6 (-1)) 164 46 0) 164 37 0) 191 1 0).1 164 3 = nI T.2 := by
    rw [uI_c (by decide), uI_j (by decide), uI_j (by decide), uI_j (by decide), uI_j (by decide), uI_j (by decide), uI_j (by decide), uI_j (by decide), uI_at, h1]
  have f1 : (mm_uI (mm_uI (mm_uI (mm_uI (mm_uI (mm_uI (mm_uI (mm_uI (mm_uI M 164 3 (M.1 164 1)) 164 1 0) 164 2 0) 164 4 (-1)) 164 5 0) 164 6 (-1)) 164 46 0) 164 37 0) 191 1 0).1 164 1 = 0 := by
    rw [uI_c (by decide), uI_j (by decide), uI_j (by decide), uI_j (by decide), uI_j (by decide), uI_j (by decide), uI_j (by decide), uI_at]
  have f2 : (mm_uI (mm_uI (mm_uI (mm_uI (mm_uI (mm_uI (mm_uI (mm_uI (mm_uI M 164 3 (M.1 164 1)) 164 1 0) 164 2 0) 164 4 (-1)) 164 5 0) 164 6 (-1)) 164 46 0) 164 37 0) 191 1 0).1 164 2 = nI 0 := by
    rw [uI_c (by decide), uI_j (by decide), uI_j (by decide), uI_j (by decide), uI_j (by decide), uI_j (by decide), uI_at]; rfl
  have f4 : (mm_uI (mm_uI (mm_uI (mm_uI (mm_uI (mm_uI (mm_uI (mm_uI (mm_uI M 164 3 (M.1 164 1)) 164 1 0) 164 2 0) 164 4 (-1)) 164 5 0) 164 6 (-1)) 164 46 0) 164 37 0) 191 1 0).1 164 4 = -1 := by
    rw [uI_c (by decide), uI_j (by decide), uI_j (by decide), uI_j (by decide), uI_j (by decide), uI_at]
  have f5 : (mm_uI (mm_uI (mm_uI (mm_uI (mm_uI (mm_uI (mm_uI (mm_uI (mm_uI M 164 3 (M.1 164 1)) 164 1 0) 164 2 0) 164 4 (-1)) 164 5 0) 164 6 (-1)) 164 46 0) 164 37 0) 191 1 0).1 164 5 = 0 := by
    rw [uI_c (by decide), uI_j (by decide), uI_j (by decide), uI_j (by decide), uI_at]
  have f6 : (mm_uI (mm_uI (mm_uI (mm_uI (mm_uI (mm_uI (mm_uI (mm_uI (mm_uI M 164 3 (M.1 164 1)) 164 1 0) 164 2 0) 164 4 (-1)) 164 5 0) 164 6 (-1)) 164 46 0) 164 37 0) 191 1 0).1 164 6 = -1 := by
    rw [uI_c (by decide), uI_j (by decide), uI_j (by decide), uI_at]
  have f46 : (mm_uI (mm_uI (mm_uI (mm_uI (mm_uI (mm_uI (mm_uI (mm_uI (mm_uI M 164 3 (M.1 164 1)) 164 1 0) 164 2 0) 164 4 (-1)) 164 5 0) 164 6 (-1)) 164 46 0) 164 37 0) 191 1 0).1 164 46 = nI 0 := by
    rw [uI_c (by decide), uI_j (by decide), uI_at]; rfl
  have f37 : (mm_uI (mm_uI (mm_uI (mm_uI (mm_uI (mm_uI (mm_uI (mm_uI (mm_uI M 164 3 (M.1 164 1)) 164 1 0) 164 2 0) 164 4 (-1)) 164 5 0) 164 6 (-1)) 164 46 0) 164 37 0) 191 1 0).1 164 37 = nI 0 := by
    rw [uI_c (by decide), uI_at]; rfl
  have fF : (mm_uI (mm_uI (mm_uI (mm_uI (mm_uI (mm_uI (mm_uI (mm_uI (mm_uI M 164 3 (M.1 164 1)) 164 1 0) 164 2 0) 164 4 (-1)) 164 5 0) 164 6 (-1)) 164 46 0) 164 37 0) 191 1 0).1 191 1 = 0 := uI_at _ _ _ _
  generalize mm_uI (mm_uI (mm_uI (mm_uI (mm_uI (mm_uI (mm_uI (mm_uI (mm_uI M 164 3 (M.1 164 1)) 164 1 0) 164 2 0) 164 4 (-1)) 164 5 0) 164 6 (-1)) 164 46 0) 164 37 0) 191 1 0 = m0 at o f1 f2 f3 f4 f5 f6 f46 f37 fF ⊢
  have hG0 : mm_G m0.2.2 := by rw [o.2.2]; exact hG
  have l73 : ∀ (k n : Nat) (m : mm_M), n + k = 5 → offM (fun c j => c = 195 ∨ (c = 196 ∧ j < 5)) m0 m → (∀ j, j < 21 → m.1 195 j = 0) → (∀ j, j < n → m.1 196 j = -1) → jX12_duchy_73 899 m K (nI n) := by
    intro k
    induction k with
    | zero =>
      intro n m hn o' e1 e2
      obtain rfl : n = 5 := by omega
      have oo : offM wM0 M m := offM_tr o (offM_mono o' (fun c j z => by unfold wM0 wMd; omega))
      refine lX12_duchy_73 (by rw [o'.2.2]; exact hG0) (ipos (by decide) (h m (m.1 191 0) oo (by rw [o'.1 _ _ (by omega)]; exact f1) ⟨0, ⟨by rw [o'.1 _ _ (by omega)]; exact f3, hT, fun j hj => by rw [oo.1 _ _ (by unfold wM0 wMd wQs wLx; omega)]; exact hB j hj⟩, by rw [o'.1 _ _ (by omega)]; exact f5, by rw [o'.1 _ _ (by omega)]; exact f6, Nat.zero_le _, by rw [o'.1 _ _ (by omega)]; exact f2, rfl, Or.inl ⟨by rw [o'.1 _ _ (by omega)]; exact f4, glu_0 T⟩⟩ (mWd_m hw oo (fun c j z => by unfold wM0 wMd wQs wLx at z; omega)) ⟨by rw [o'.1 _ _ (by omega)]; exact f37, rfl, by rw [o'.1 _ _ (by omega)]; exact fF, fun h hh => by have : h < 0 := hh; omega, fun a b ha hb hab => e1 _ (pr_lt a ha b hb hab), fun k hk => ⟨fun _ => e2 k hk, fun C hC => (by cases hC)⟩, by rw [o'.1 _ _ (by omega)]; exact f46⟩))
    | succ k ih =>
      intro n m hn o' e1 e2
      refine lX12_duchy_73 (by rw [o'.2.2]; exact hG0) ?_
      rw [nI_clamp (by omega), nI_1]
      refine ineg (nI_ge (b := 5) (by omega) (by decide)) ⟨vp_in_nI (by omega) (by decide), ih (n + 1) _ (by omega) (offM_tr o' (offM_uI (by omega))) (fun j hj => by rw [uI_c (by decide)]; exact e1 j hj) (fun j hj => ?_)⟩
      by_cases e : j = n
      · subst e; exact uI_at _ _ _ _
      · rw [uI_j e]; exact e2 j (by omega)
  have l52 : ∀ (k n : Nat) (m : mm_M), n + k = 21 → offM (fun c j => c = 195) m0 m → (∀ j, j < n → m.1 195 j = 0) → jX12_duchy_52 899 m K (nI n) := by
    intro k
    induction k with
    | zero =>
      intro n m hn o' e1
      obtain rfl : n = 21 := by omega
      exact lX12_duchy_52 (by rw [o'.2.2]; exact hG0) (ipos (by decide) (l73 5 0 m (by omega) (offM_mono o' (fun c j z => by omega)) e1 (fun j hj => by omega)))
    | succ k ih =>
      intro n m hn o' e1
      refine lX12_duchy_52 (by rw [o'.2.2]; exact hG0) ?_
      rw [nI_clamp (by omega), nI_1]
      refine ineg (nI_ge (b := 21) (by omega) (by decide)) ⟨vp_in_nI (by omega) (by decide), ih (n + 1) _ (by omega) (offM_tr o' (offM_uI rfl)) (fun j hj => ?_)⟩
      by_cases e : j = n
      · subst e; exact uI_at _ _ _ _
      · rw [uI_j e]; exact e1 j (by omega)
  exact l52 21 0 m0 (by omega) offM_rf (fun j hj => by omega)
/-! what was told is a duchy's rules and moment -/
theorem okc_evp {tk : Nat} {b : Bool} {C : List Nat} (h : evp tk 38 b C) (ht : tk < 3) : okc (alt tk) b (tas C) := fun F h1 h2 => by
  obtain ⟨v, fl, q1, q2⟩ := h.2 F (fun _ _ => none) [] h1 (fun z => by omega) (by show 0 + 38 ≤ 64; omega)
  exact ⟨v, fl, q1, q2⟩
theorem evp_dfl : ∀ k, k < 5 → ∃ C, tas C = dfl k ∧ evp (tkOf k) 38 (decide (k = 2)) C := by
  intro k hk
  match k, hk with
  | 0, _ => exact ⟨[44], by decide, evp_mono (evp_fact (w := 6) (p := 4) (by decide) (by decide) (by decide)) (by decide)⟩
  | 1, _ => exact ⟨[41], by decide, evp_mono (evp_fact (w := 3) (p := 1) (by decide) (by decide) (by decide)) (by decide)⟩
  | 2, _ => exact ⟨[42, 1005, 8], by decide, evp_mono (evp_bin (c := 8) (evp_fact (tk := 1) (w := 14) (p := 2) (by decide) (by decide) (by decide)) (evp_num (v := 5) (by decide)) (by decide) (fun z => by omega)) (by decide)⟩
  | 3, _ => exact ⟨[44], by decide, evp_mono (evp_fact (w := 6) (p := 4) (by decide) (by decide) (by decide)) (by decide)⟩
  | 4, _ => exact ⟨[13], by decide, evp_mono (evp_f evp_all) (by decide)⟩
theorem okc_code {T : dT} {q k : Nat} {R : dR} (v : vR T q R) (hk : k < 5) : okc (alt (tkOf k)) (decide (k = 2)) (codeT R k) := by
  cases h : R.2.2.2.2.2.2.2.1 k with
  | none =>
    obtain ⟨C, e, h'⟩ := evp_dfl k hk
    have : codeT R k = tas C := by unfold codeT; rw [h]; exact e.symm
    rw [this]
    exact okc_evp h' (tkOf_lt k)
  | some C =>
    have : codeT R k = tas C := by unfold codeT; rw [h]
    rw [this]
    exact okc_evp (v.2.2.2.2.2.2.2.2.2.2.2.1 k C h) (tkOf_lt k)
theorem vU_R {T : dT} {q : Nat} {R : dR} (v : vR T q R) : vU (rU R) := by
  obtain ⟨v1, v2, v3, v4, v5, v6, v7, v8, v9, v10, v11, v12, v13, hq⟩ := id v
  exact ⟨by show inI 0 20 R.1; unfold inI at v1 ⊢; omega, v3, v7, okc_code (k := 0) v (by decide), okc_code (k := 1) v (by decide), okc_code (k := 2) v (by decide), okc_code (k := 3) v (by decide), okc_code (k := 4) v (by decide)⟩
theorem vN_R {T : dT} {q : Nat} {R : dR} (v : vR T q R) : vN (rU R) (N0 R) := by
  obtain ⟨v1, v2, v3, v4, v5, v6, v7, v8, v9, v10, v11, v12, v13, hq⟩ := id v
  have tb : ∀ h, h < R.2.2.1 → (N0 R).2.1.testBit h = true := fun h hh => by
    show (2 ^ R.2.2.1 - 1).testBit h = true
    rw [Nat.testBit_two_pow_sub_one]; exact decide_eq_true hh
  have i0 : ∀ b : Int, 0 ≤ b → inI 0 b (0 : Int32) := fun b hb => ⟨by decide, hb⟩
  refine ⟨i0 1100 (by decide), ?_, v5, fun h => i0 9 (by decide), v8, v9, v10, fun h k z => ?_⟩
  · show 2 ^ R.2.2.1 - 1 < 2 ^ R.2.2.1
    have := Nat.two_pow_pos R.2.2.1
    omega
  · have := v11 h k z
    exact ⟨tb h this.1, tb k this.2⟩
theorem fin_x : ∀ q ∈ mm_FIN, ¬ ((q.1 = 0 ∧ q.2.1 = 11) ∨ (q.1 = 4 ∧ q.2.1 = 1) ∨ (q.1 = 21 ∧ q.2.1 = 0)) := by decide +kernel
theorem G_uR {M : mm_M} {a k : Nat} {x : Option Nat} (hG : mm_G M.2.2) (h : (a = 0 ∧ k = 11) ∨ (a = 4 ∧ k = 1) ∨ (a = 21 ∧ k = 0)) : mm_G (mm_uR M a k x).2.2 := by
  intro q hq
  have hf := fin_x q hq
  rw [uR_off.2.2 _ _ (fun z => by omega)]
  exact hG q hq
theorem shl_n : ∀ n, n < 8 → ((1 : Int32) <<< ((nI n) &&& 31)) - 1 = nI (2 ^ n - 1) := by decide +kernel
theorem cp_off {W : Nat → Nat → Prop} {M : mm_M} {a0 a1 sp dp n : Nat} (h : ∀ j, W a1 j) : offM W M (mm_cp M a0 a1 sp dp n) := by
  refine ⟨fun c j q => ?_, fun _ _ _ => rfl, rfl⟩
  by_cases e : c = a1
  · subst e; exact absurd (h j) q
  · rw [cp_c e]
/-- the first day -/
theorem c_first {r d n : Nat} {M : mm_M} {K : mm_M → Prop} (hr : r ∈ mm_Rls) (hG : mm_G M.2.2) (h2 : M.1 r 2 = nI n) (hn : n ≤ 7) (hK : ∀ m, offM (fun c _ => 37 ≤ c ∧ c ≤ 40) M m → m.1 37 0 = 0 → m.1 37 1 = nI (2 ^ n - 1) → m.1 37 2 = nI 0 → (∀ h, h < 7 → m.1 38 h = M.1 (r + 2) h) → (∀ h, h < 7 → m.1 39 h = 0) → (∀ j, j < 64 → m.1 40 j = M.1 (r + 4) j) → K m) : mm_CV mX9_begin (d + 2) [.ref 37, .ref r] M K := by
  have hr' := Rl_at hr
  refine rX9_begin st37 hr hG ?_
  rw [uI_c (show r ≠ 37 by omega), h2, shl_n n (by omega)]
  have t0 : (0 : Int32).toNatClampNeg = 0 := rfl
  have t7 : (7 : Int32).toNatClampNeg = 7 := rfl
  have t64 : (64 : Int32).toNatClampNeg = 64 := rfl
  rw [t0, t7, t64]
  have o1 : offM (fun c _ => c = 37) M (mm_uI (mm_uI (mm_uI M 37 0 0) 37 1 (nI (2 ^ n - 1))) 37 2 0) := offM_tr (offM_tr (offM_uI rfl) (offM_uI rfl)) (offM_uI rfl)
  have a0 : (mm_uI (mm_uI (mm_uI M 37 0 0) 37 1 (nI (2 ^ n - 1))) 37 2 0).1 37 0 = 0 := by rw [uI_j (by decide), uI_j (by decide), uI_at]
  have a1 : (mm_uI (mm_uI (mm_uI M 37 0 0) 37 1 (nI (2 ^ n - 1))) 37 2 0).1 37 1 = nI (2 ^ n - 1) := by rw [uI_j (by decide), uI_at]
  have a2 : (mm_uI (mm_uI (mm_uI M 37 0 0) 37 1 (nI (2 ^ n - 1))) 37 2 0).1 37 2 = nI 0 := uI_at _ _ _ _
  generalize mm_uI (mm_uI (mm_uI M 37 0 0) 37 1 (nI (2 ^ n - 1))) 37 2 0 = m1 at o1 a0 a1 a2 ⊢
  have o2 : offM (fun c _ => c = 38) m1 (mm_cp m1 (r + 2) (37 + 1) 0 0 7) := cp_off (fun j => rfl)
  have b2 : ∀ h, h < 7 → (mm_cp m1 (r + 2) (37 + 1) 0 0 7).1 38 h = m1.1 (r + 2) h := fun h hh => cp_at hh
  generalize mm_cp m1 (r + 2) (37 + 1) 0 0 7 = m2 at o2 b2 ⊢
  have o3 : offM (fun c _ => c = 40) m2 (mm_cp m2 (r + 4) (37 + 3) 0 0 64) := cp_off (fun j => rfl)
  have b3 : ∀ h, h < 64 → (mm_cp m2 (r + 4) (37 + 3) 0 0 64).1 40 h = m2.1 (r + 4) h := fun h hh => cp_at hh
  generalize mm_cp m2 (r + 4) (37 + 3) 0 0 64 = m3 at o3 b3 ⊢
  refine c_fill (r0 := 37 + 2) (n0 := 7) (by decide +kernel) (by decide) (by rw [o3.2.2, o2.2.2, o1.2.2]; exact hG) (fun m4 o4 b4 => ?_)
  have o34 : offM (fun c _ => 38 ≤ c ∧ c ≤ 40) m1 m4 := offM_tr (offM_tr (offM_mono o2 (fun c j z => by omega)) (offM_mono o3 (fun c j z => by omega))) (offM_mono o4 (fun c j z => by omega))
  refine hK m4 (offM_tr (offM_mono o1 (fun c j z => by omega)) (offM_mono o34 (fun c j z => by omega))) (by rw [o34.1 _ _ (by omega)]; exact a0) (by rw [o34.1 _ _ (by omega)]; exact a1) (by rw [o34.1 _ _ (by omega)]; exact a2) (fun h hh => ?_) (fun h hh => b4 h hh) (fun j hj => ?_)
  · rw [o4.1 _ _ (by omega), o3.1 _ _ (by omega), b2 h hh, o1.1 _ _ (by omega)]
  · rw [o4.1 _ _ (by omega), b3 j hj, o2.1 _ _ (by omega), o1.1 _ _ (by omega)]
