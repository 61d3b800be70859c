/-! ===== allEat, isGone, cool, grow, dayGoes ===== -/
theorem m_eat_loop {d rest : Nat} {th : Bool} {L : List dQ} {U : dU} {M : mm_M} {K : mm_M → Prop} (hG : mm_G M.2.2) (hU : mU U M) (vu : vU U) (hr : rest < 128) (h59 : M.1 164 59 = nI rest) (hth : M.1 164 57 = if th then 1 else 0) : ∀ (k i : Nat) (S : dS) (m : mm_M), i + k = 7 → i ≤ U.2.1 → vN U S.1 → mS i th L rest M S m → (∀ m', mS U.2.1 th L rest M ((List.range' i k).foldl (serveS U) S) m' → K m') → jX12_allEat_28 (d + 9) m K (nI i) := by
  intro k
  induction k with
  | zero =>
    intro i S m hi hs vn hS hK
    have hu7 := vu.2.1
    have ho := hS.1
    have hGm : mm_G m.2.2 := by rw [ho.2.2]; exact hG
    have hUm : mU U m := mU_off hU ho (fun c j q => by unfold wE wA at q; omega)
    refine lX12_allEat_28 hGm (m_houseMany hGm ?_)
    rw [hUm.2.1]
    obtain rfl : i = U.2.1 := by omega
    exact ipos (nI_le (Nat.le_refl _) (by omega)) (hK m hS)
  | succ k ih =>
    intro i S m hi hs vn hS hK
    have hi7 : i < 7 := by omega
    have hu7 := vu.2.1
    have ho := hS.1
    have hGm : mm_G m.2.2 := by rw [ho.2.2]; exact hG
    have hUm : mU U m := mU_off hU ho (fun c j q => by unfold wE wA at q; omega)
    refine lX12_allEat_28 hGm (m_houseMany hGm ?_)
    rw [hUm.2.1, nI_1]
    by_cases hx : U.2.1 ≤ i
    · obtain rfl : i = U.2.1 := by omega
      refine ipos (nI_le (Nat.le_refl _) (by omega)) (hK m ?_)
      rw [fold_id (List.range' U.2.1 (k + 1)) (fun j hj => ?_)]
      · exact hS
      · have hji := range_ge hj
        unfold serveS
        rw [if_neg]
        intro q
        have := bit_lt vn q
        omega
    · refine ineg (nI_ge (by omega) (by omega)) ⟨vp_in_nI hi7 (by decide), ?_⟩
      rw [List.range'_succ, List.foldl_cons] at hK
      rw [nI_clamp (by omega)]
      obtain ⟨ho, hN, h202, h203, hnone, h204, h60, h58, hk⟩ := hS
      have o1 : offM (fun c j => c = 202 ∧ j = i) m (mm_uI m 202 i (-1)) := offM_uI ⟨rfl, rfl⟩
      have g202 : (mm_uI m 202 i (-1)).1 202 i = -1 := uI_at _ _ _ _
      generalize mm_uI m 202 i (-1) = m1 at o1 g202 ⊢
      have hG1 : mm_G m1.2.2 := by rw [o1.2.2]; exact hGm
      have b203 : ∀ e q, e < i → S.2.2.1 e = some q → m1.1 203 e = q.2 := fun e q he hq => by rw [o1.1 _ _ (by omega)]; exact h203 e q he hq
      have b204 : ∀ a b, a < 7 → b < 7 → a ≠ b → m1.1 204 (pr a b) = loavesOf S.2.2.1 a b := fun a b ha hb hab => by rw [o1.1 _ _ (by omega)]; exact h204 a b ha hb hab
      have b60 : ∃ bk, bk < 128 ∧ m1.1 164 60 = nI bk ∧ rest ||| bk = S.2.1 := by
        obtain ⟨bk, q1, q2, q3⟩ := h60
        exact ⟨bk, q1, by rw [o1.1 _ _ (by omega)]; exact q2, q3⟩
      have b58 : m1.1 164 58 = M.1 164 58 + nI S.2.2.2.length := by rw [o1.1 _ _ (by omega)]; exact h58
      have bk1 : mK (keptA (!th) L S.1.1 S.2.2.2) m1 := mK_off hk o1 (fun c j q => by omega)
      have bo : offM wE M m1 := offM_tr ho (offM_mono o1 (fun c j q => by unfold wE; omega))
      have bN : mN S.1 m1 := mN_off hN o1 (fun c j q => by omega)
      have S1 : mS i th L rest M S m1 := ⟨bo, bN, fun e he => by rw [o1.1 _ _ (by omega)]; exact h202 e he, b203, hnone, b204, b60, b58, bk1⟩
      refine m_isThere hG1 bN hi7 ?_
      by_cases c : S.1.2.1.testBit i = true
      · rw [if_pos c]
        refine ineg (by decide) (m_eats hG hU vu vn hi7 hr h59 hth S1 c (fun m2 S2 => ?_))
        exact ih (i + 1) _ m2 (by omega) (by omega) (serveS_v vu vn) S2 hK
      · rw [if_neg c]
        refine ipos rfl ?_
        have hS' : serveS U S i = S := by unfold serveS; rw [if_neg c]
        rw [hS'] at hK
        refine ih (i + 1) S m1 (by omega) (by omega) vn ⟨bo, bN, fun e he => ?_, fun e q he hq => ?_, fun e he => hnone e (by omega), b204, b60, b58, bk1⟩ hK
        · by_cases z : e = i
          · subst z; rw [g202, hnone e (Nat.le_refl _)]; rfl
          · rw [o1.1 _ _ (by omega)]; exact h202 e (by omega)
        · by_cases z : e = i
          · rw [z, hnone i (Nat.le_refl _)] at hq; cases hq
          · exact b203 e q (by omega) hq
theorem m_clear_loop {d : Nat} {M : mm_M} {K : mm_M → Prop} (hG : mm_G M.2.2) : ∀ (k i : Nat) (m : mm_M), i + k = 21 → offM (fun c _ => c = 204) M m → (∀ j, j < i → m.1 204 j = 0) → (∀ m', offM (fun c _ => c = 204) M m' → (∀ j, j < 21 → m'.1 204 j = 0) → jX12_allEat_28 d m' K 0) → jX12_allEat_7 d m K (nI i) := by
  intro k
  induction k with
  | zero =>
    intro i m hi ho h hK
    obtain rfl : i = 21 := by omega
    exact lX12_allEat_7 (by rw [ho.2.2]; exact hG) (ipos (by decide) (hK m ho h))
  | succ k ih =>
    intro i m hi ho h hK
    refine lX12_allEat_7 (by rw [ho.2.2]; exact hG) (ineg (nI_ge (b := 21) (by omega) (by decide)) ⟨vp_in_nI (by omega) (by decide), ?_⟩)
    rw [nI_1, nI_clamp (by omega)]
    refine ih (i + 1) _ (by omega) (offM_tr ho (offM_uI rfl)) (fun j hj => ?_) hK
    by_cases c : j = i
    · subst c; exact uI_at _ _ _ _
    · rw [uI_j c]; exact h j (by omega)
theorem m_allEat {d rest : Nat} {th : Bool} {L : List dQ} {U : dU} {N : dN} {M : mm_M} {K : mm_M → Prop} (hG : mm_G M.2.2) (hU : mU U M) (hN : mN N M) (vu : vU U) (vn : vN U N) (hr : rest < 128) (h59 : M.1 164 59 = nI rest) (hth : M.1 164 57 = if th then 1 else 0) (hL : mK L M) (hK : ∀ m, mS U.2.1 th L rest M (serveA U N rest) m → K m) : mm_CV mX12_allEat (d + 10) [.ref 164] M K := by
  refine rX12_allEat hG ?_
  have o1 : offM (fun c j => c = 164 ∧ j = 60) M (mm_uI M 164 60 0) := offM_uI ⟨rfl, rfl⟩
  have g60 : (mm_uI M 164 60 0).1 164 60 = nI 0 := uI_at _ _ _ _
  generalize mm_uI M 164 60 0 = m1 at o1 g60 ⊢
  refine m_clear_loop (M := m1) (by rw [o1.2.2]; exact hG) 21 0 m1 (by omega) offM_rf (fun j hj => by omega) (fun m2 o2 z2 => ?_)
  have bo : offM wE M m2 := offM_tr (offM_mono o1 (fun c j q => by unfold wE; omega)) (offM_mono o2 (fun c j q => by unfold wE; omega))
  refine m_eat_loop (M := M) (U := U) hG hU vu hr h59 hth 7 0 (N, rest, fun _ => none, []) m2 (by omega) (by omega) vn ?_ hK
  refine ⟨bo, mN_off (mN_off hN o1 (fun c j q => by omega)) o2 (fun c j q => by omega), fun e he => by omega, fun e q he => by omega, fun _ _ => rfl, fun a b ha hb hab => ?_, ⟨0, by decide, by rw [o2.1 _ _ (by omega)]; exact g60, Nat.or_zero _⟩, ?_, ?_⟩
  · rw [z2 _ (pr_lt a ha b hb hab)]; rfl
  · rw [o2.1 _ _ (by omega), o1.1 _ _ (by omega)]
    show M.1 164 58 = M.1 164 58 + nI 0
    rw [nI_0, Int32.add_zero]
  · have := mK_off (mK_off hL o1 (fun c j q => by omega)) o2 (fun c j q => by omega)
    cases th <;> exact this
theorem mN_uP {a b : Nat} {x : Int32} {N : dN} {M : mm_M} (hN : mN N M) (ha : a < 7) (hb : b < 7) (hab : a ≠ b) : mN (setH N a b x) (mm_uI M 199 (22 + pr a b) x) := by
  obtain ⟨h1, h2, h3, h4, h5⟩ := hN
  refine ⟨by rw [uI_j (by omega)]; exact h1, fun k hk => by rw [uI_j (by omega)]; exact h2 k hk, fun k hk => by rw [uI_j (by omega)]; exact h3 k hk, fun k hk => by rw [uI_j (by omega)]; exact h4 k hk, fun p q hp hq hpq => ?_⟩
  show _ = (if (p = a ∧ q = b) ∨ (p = b ∧ q = a) then x else N.2.2.2.2 p q)
  by_cases c : (p = a ∧ q = b) ∨ (p = b ∧ q = a)
  · rw [if_pos c]
    have : pr p q = pr a b := by
      rcases c with ⟨rfl, rfl⟩ | ⟨rfl, rfl⟩
      · rfl
      · exact pr_sym _ hp _ hq
    rw [this, uI_at]
  · rw [if_neg c]
    have : pr p q ≠ pr a b := fun e => c (pr_inj p hp q hq a ha b hb hpq hab e)
    rw [uI_j (by omega)]
    exact h5 p q hp hq hpq
theorem mN_ext {N N' : dN} {M : mm_M} (h : mN N M) (h1 : N'.1 = N.1) (h2 : N'.2.1 = N.2.1) (h3 : ∀ h, h < 7 → N'.2.2.1 h = N.2.2.1 h) (h4 : ∀ h, h < 7 → N'.2.2.2.1 h = N.2.2.2.1 h) (h5 : ∀ a b, a < 7 → b < 7 → a ≠ b → N'.2.2.2.2 a b = N.2.2.2.2 a b) : mN N' M :=
  ⟨h.1.trans h1.symm, fun k hk => by rw [h2]; exact h.2.1 k hk, fun k hk => (h.2.2.1 k hk).trans (h3 k hk).symm, fun k hk => (h.2.2.2.1 k hk).trans (h4 k hk).symm, fun i j hi hj hij => (h.2.2.2.2 i j hi hj hij).trans (h5 i j hi hj hij).symm⟩
def wN (c j : Nat) : Prop := c = 199 ∧ j < 43
theorem m_gone_loop {d h : Nat} {U : dU} {N : dN} {M : mm_M} {K : mm_M → Prop} {x1 : Int32} (hG : mm_G M.2.2) (hU : mU U M) (vu : vU U) (hh : h < 7) : ∀ (k i : Nat) (m : mm_M), i + k = 7 → i ≤ U.2.1 → offM wN M m → mN (N.1, N.2.1, N.2.2.1, N.2.2.2.1, fun p q => if (p = h ∧ q < i) ∨ (q = h ∧ p < i) then 0 else N.2.2.2.2 p q) m → (∀ m', offM wN M m' → mN (N.1, N.2.1, N.2.2.1, N.2.2.2.1, fun p q => if (p = h ∧ q < U.2.1) ∨ (q = h ∧ p < U.2.1) then 0 else N.2.2.2.2 p q) m' → K m') → jX12_isGone_13 d x1 m K (nI h) (nI i) := by
  intro k
  induction k with
  | zero =>
    intro i m hi hs ho hN hK
    have hu7 := vu.2.1
    have hGm : mm_G m.2.2 := by rw [ho.2.2]; exact hG
    have hUm : mU U m := mU_off hU ho (fun c j q => by unfold wN at q; omega)
    refine lX12_isGone_13 hGm (m_houseMany hGm ?_)
    rw [hUm.2.1]
    obtain rfl : i = U.2.1 := by omega
    exact ipos (nI_le (Nat.le_refl _) (by omega)) (hK m ho hN)
  | succ k ih =>
    intro i m hi hs ho hN hK
    have hu7 := vu.2.1
    have hi7 : i < 7 := by omega
    have hGm : mm_G m.2.2 := by rw [ho.2.2]; exact hG
    have hUm : mU U m := mU_off hU ho (fun c j q => by unfold wN at q; omega)
    refine lX12_isGone_13 hGm (m_houseMany hGm ?_)
    rw [hUm.2.1, nI_1]
    by_cases hx : U.2.1 ≤ i
    · obtain rfl : i = U.2.1 := by omega
      exact ipos (nI_le (Nat.le_refl _) (by omega)) (hK m ho hN)
    · refine ineg (nI_ge (by omega) (by omega)) ?_
      by_cases c : i = h
      · refine ipos (by rw [c]) ?_
        refine ih (i + 1) m (by omega) (by omega) ho ?_ hK
        refine mN_ext hN rfl rfl (fun _ _ => rfl) (fun _ _ => rfl) (fun p q hp hq hpq => ?_)
        show (if (p = h ∧ q < i + 1) ∨ (q = h ∧ p < i + 1) then (0 : Int32) else N.2.2.2.2 p q) = (if (p = h ∧ q < i) ∨ (q = h ∧ p < i) then 0 else N.2.2.2.2 p q)
        by_cases c2 : (p = h ∧ q < i) ∨ (q = h ∧ p < i)
        · rw [if_pos (by omega), if_pos c2]
        · rw [if_neg (by omega), if_neg c2]
      · refine ineg (fun q => c ((nI_eq (by omega) (by omega)).mp q)) (m_pairOf hGm hh hi7 (fun q => c q.symm) ?_)
        have hpr := pr_lt h hh i hi7 (fun q => c q.symm)
        rw [n22, nI_clamp (by omega)]
        refine ⟨vp_in_nI (by omega) (by decide), ?_⟩
        refine ih (i + 1) _ (by omega) (by omega) (offM_tr ho (offM_uI ⟨rfl, by omega⟩)) ?_ hK
        refine mN_ext (mN_uP hN hh hi7 (fun q => c q.symm)) rfl rfl (fun _ _ => rfl) (fun _ _ => rfl) (fun p q hp hq hpq => ?_)
        show (if (p = h ∧ q < i + 1) ∨ (q = h ∧ p < i + 1) then (0 : Int32) else N.2.2.2.2 p q) = (if (p = h ∧ q = i) ∨ (p = i ∧ q = h) then 0 else (if (p = h ∧ q < i) ∨ (q = h ∧ p < i) then 0 else N.2.2.2.2 p q))
        by_cases c1 : (p = h ∧ q = i) ∨ (p = i ∧ q = h)
        · rw [if_pos (by omega), if_pos c1]
        · rw [if_neg c1]
          by_cases c2 : (p = h ∧ q < i) ∨ (q = h ∧ p < i)
          · rw [if_pos (by omega), if_pos c2]
          · rw [if_neg (by omega), if_neg c2]
theorem m_isGone {d h : Nat} {U : dU} {N : dN} {M : mm_M} {K : mm_M → Prop} (hG : mm_G M.2.2) (hU : mU U M) (hN : mN N M) (vu : vU U) (vn : vN U N) (hh : h < 7) (hK : ∀ m, offM wN M m → mN (goneA N h) m → K m) : mm_CV mX12_isGone (d + 1) [.ref 164, .int (nI h)] M K := by
  refine rX12_isGone hG ?_
  have h128 := vN_lt vu vn
  rw [mx1 h (by omega), nI_clamp (by omega)]
  refine ⟨vp_in_nI (by omega) (by decide), ?_⟩
  refine m_gone_loop (M := M) (N := (N.1, N.2.1 - (if N.2.1.testBit h then 2 ^ h else 0), N.2.2)) hG hU vu hh 7 0 _ (by omega) (by omega) (offM_uI ⟨rfl, by omega⟩) ?_ (fun m' ho' hN' => hK m' ho' ?_)
  · obtain ⟨h1, h2, h3, h4, h5⟩ := hN
    refine ⟨by rw [uI_j (by omega)]; exact h1, fun k hk => ?_, fun k hk => by rw [uI_j (by omega)]; exact h3 k hk, fun k hk => by rw [uI_j (by omega)]; exact h4 k hk, fun p q hp hq hpq => ?_⟩
    · show _ = if (N.2.1 - (if N.2.1.testBit h then 2 ^ h else 0)).testBit k then (1 : Int32) else 0
      rw [clr_bit _ h128 h hh k hk]
      by_cases c : k = h
      · subst c; rw [uI_at]; simp
      · rw [uI_j (by omega), h2 k hk]; simp [c]
    · have := pr_lt p hp q hq hpq
      rw [uI_j (by omega)]
      show _ = (if (p = h ∧ q < 0) ∨ (q = h ∧ p < 0) then (0 : Int32) else N.2.2.2.2 p q)
      rw [if_neg (by omega)]; exact h5 p q hp hq hpq
  · refine mN_ext hN' rfl rfl (fun _ _ => rfl) (fun _ _ => rfl) (fun p q hp hq hpq => ?_)
    show (if p = h ∨ q = h then (0 : Int32) else N.2.2.2.2 p q) = (if (p = h ∧ q < U.2.1) ∨ (q = h ∧ p < U.2.1) then 0 else N.2.2.2.2 p q)
    have zero : ∀ p q, ¬ (p < U.2.1 ∧ q < U.2.1) → N.2.2.2.2 p q = 0 := fun p q z => by
      have h1 := vn.2.2.2.2.1 p q
      have h2 : ¬ 0 < N.2.2.2.2 p q := fun w => by
        have := vn.2.2.2.2.2.2.2 p q w
        exact z ⟨bit_lt vn this.1, bit_lt vn this.2⟩
      have h2' := mt i32_lt.mpr h2
      have e0 : (0 : Int32).toInt = 0 := rfl
      unfold inI at h1
      exact i32_eq.mpr (by omega)
    by_cases c : p = h ∨ q = h
    · rw [if_pos c]
      by_cases c2 : (p = h ∧ q < U.2.1) ∨ (q = h ∧ p < U.2.1)
      · rw [if_pos c2]
      · rw [if_neg c2]
        exact (zero p q (by omega)).symm
    · rw [if_neg c, if_neg (by omega)]
theorem m_doesStarve {d h : Nat} {U : dU} {N : dN} {M : mm_M} {K : Int32 → mm_M → Prop} (hG : mm_G M.2.2) (hU : mU U M) (hN : mN N M) (vu : vU U) (vn : vN U N) (hhs : h < U.2.1) (hh : h < 7) (hK : ∀ m, offM wA M m → K (if starvesA U N h then 1 else 0) m) : mm_CI mX12_doesStarve (d + 7) [.ref 164, .int (nI h)] M K := by
  refine rX12_doesStarve hG (m_isTold (w := 2) hG (by decide) ?_)
  by_cases c : M.1 196 (5 + 2) = -1
  · rw [if_pos c]
    refine ipos rfl (m_hungerOf hG hN hh ?_)
    have hv : val (fH U N h) (U.2.2.2 2) = if 5 < (N.2.2.2.1 h).toInt then 1 else 0 := by
      rw [told_no hU (by decide) c, val_d2 (v := (N.2.2.2.1 h).toInt) rfl]
    have e5 : (5 : Int32).toInt = 5 := rfl
    have := hK M offM_rf
    unfold starvesA at this
    rw [hv] at this
    by_cases z : N.2.2.2.1 h ≤ 5
    · have z' := i32_le.mp z
      refine ipos z ?_
      rw [if_neg (show ¬ 5 < (N.2.2.2.1 h).toInt by omega)] at this
      exact this
    · have z' := mt i32_le.mpr z
      refine ineg z ?_
      rw [if_pos (show 5 < (N.2.2.2.1 h).toInt by omega)] at this
      exact this
  · rw [if_neg c]
    refine ineg (by decide) ?_
    have o1 : offM (fun c j => c = 164 ∧ (j = 52 ∨ j = 53)) M (mm_uI (mm_uI M 164 52 (nI h)) 164 53 (nI h)) := offM_tr (offM_uI (by omega)) (offM_uI (by omega))
    have g52 : (mm_uI (mm_uI M 164 52 (nI h)) 164 53 (nI h)).1 164 52 = nI h := by rw [uI_j (by decide), uI_at]
    have g53 : (mm_uI (mm_uI M 164 52 (nI h)) 164 53 (nI h)).1 164 53 = nI h := uI_at _ _ _ _
    generalize mm_uI (mm_uI M 164 52 (nI h)) 164 53 (nI h) = m at o1 g52 g53 ⊢
    have hUm : mU U m := mU_off hU o1 (fun c j q => by omega)
    have hNm : mN N m := mN_off hN o1 (fun c j q => by omega)
    refine m_kind (w := 2) (al := alH) (F := fH U N h) (by rw [o1.2.2]; exact hG) hUm (by decide) (by rw [o1.1 _ _ (by omega)]; exact c) fH_all vu.2.2.2.2.2.1 (fH_ok vu vn) (fun m2 o2 => mF_H (mU_off hUm o2 (fun c j q => by omega)) (mN_off hNm o2 (fun c j q => by omega)) hhs hh (by rw [o2.1 _ _ (by omega)]; exact g52) (by rw [o2.1 _ _ (by omega)]; exact g53)) (fun m2 z o2 hz => ?_)
    have h01 := (okc_val vu.2.2.2.2.2.1 fH_all (fH_ok (N := N) (b := h) vu vn)).2.2 rfl
    have := hK m2 (offM_tr (offM_mono o1 (fun c j q => by unfold wA; omega)) o2)
    unfold starvesA at this
    have e1 : (1 : Int64).toInt = 1 := rfl
    by_cases q : z = 1
    · refine ipos q ?_
      have : val (fH U N h) (U.2.2.2 2) = 1 := by rw [← hz, q]; rfl
      rename_i hh2
      rw [this] at hh2
      exact hh2
    · refine ineg q ?_
      have h0 : val (fH U N h) (U.2.2.2 2) = 0 := by
        rcases h01 with h | h
        · exact h
        · exact absurd (i64_eq.mpr (by rw [hz, h]; rfl)) q
      rw [h0] at this
      exact this
def wC (c j : Nat) : Prop := wA c j ∨ (c = 199 ∧ j < 43)
theorem setH_same {U : dU} {N : dN} {a b : Nat} (vn : vN U N) : setH N a b (N.2.2.2.2 a b) = N := by
  unfold setH
  have : (fun i j => if (i = a ∧ j = b) ∨ (i = b ∧ j = a) then N.2.2.2.2 a b else N.2.2.2.2 i j) = N.2.2.2.2 := by
    funext i j
    by_cases c : (i = a ∧ j = b) ∨ (i = b ∧ j = a)
    · rw [if_pos c]
      rcases c with ⟨rfl, rfl⟩ | ⟨rfl, rfl⟩
      · rfl
      · exact vn.2.2.2.2.2.1 _ _
    · rw [if_neg c]
  rw [this]
theorem bnd_self {x : Int32} (h : inI 0 99 x) : bnd x.toInt = x := by
  unfold inI at h
  unfold bnd
  rw [if_neg (by omega), if_neg (by omega), Int32.ofInt_toInt]
theorem loaves_ok (bt : Nat → Option (Nat × Int32)) (i j : Nat) : okz (loavesOf bt i j).toInt := by
  unfold loavesOf
  by_cases q1 : (bt i).map (·.1) = some j <;> by_cases q2 : (bt j).map (·.1) = some i <;> simp only [q1, q2, if_true, if_false] <;> unfold okz <;> decide
theorem m_cool {d a b : Nat} {bt : Nat → Option (Nat × Int32)} {U : dU} {N : dN} {M : mm_M} {K : mm_M → Prop} (hG : mm_G M.2.2) (hU : mU U M) (hN : mN N M) (vu : vU U) (vn : vN U N) (ha : a < 7) (hb : b < 7) (hab : a ≠ b) (h204 : M.1 204 (pr a b) = loavesOf bt a b) (hK : ∀ m, offM wC M m → mN (coolS U bt a N b) m → K m) : mm_CV mX12_cool (d + 7) [.ref 164, .int (nI a), .int (nI b)] M K := by
  refine rX12_cool hG (m_areEnemies (U := U) hG hN vn ha hb ?_)
  by_cases c : 0 < N.2.2.2.2 a b
  · rw [if_pos c]
    refine ineg (by decide) (m_isTold (w := 3) hG (by decide) ?_)
    have hS : coolS U bt a N b = setH N a b (bnd (val (fC N.1 (N.2.2.2.2 a b) (loavesOf bt a b)) (U.2.2.2 3))) := by unfold coolS; rw [if_pos c]
    rw [hS] at hK
    by_cases ct : M.1 196 (5 + 3) = -1
    · rw [if_pos ct]
      refine ipos rfl (hK M offM_rf ?_)
      rw [told_no hU (by decide) ct, val_d3 (v := (N.2.2.2.2 a b).toInt) rfl, bnd_self (vn.2.2.2.2.1 a b), setH_same vn]
      exact hN
    · rw [if_neg ct]
      refine ineg (by decide) (m_hateOf hG hN ha hb hab ?_)
      have hpr := pr_lt a ha b hb hab
      have o1 : offM (fun c j => c = 164 ∧ j = 54) M (mm_uL M 164 54 (N.2.2.2.2 a b).toInt64) := offM_uL ⟨rfl, rfl⟩
      have g54 : (mm_uL M 164 54 (N.2.2.2.2 a b).toInt64).2.1 164 54 = (N.2.2.2.2 a b).toInt64 := uL_at _ _ _ _
      generalize mm_uL M 164 54 (N.2.2.2.2 a b).toInt64 = m1 at o1 g54 ⊢
      have hG1 : mm_G m1.2.2 := by rw [o1.2.2]; exact hG
      refine m_pairOf hG1 ha hb hab ⟨vp_in_nI hpr (by decide), ?_⟩
      rw [nI_clamp (n := pr a b) (by omega), o1.1 204 _ (by omega), h204]
      have o2 : offM (fun c j => c = 164 ∧ j = 55) m1 (mm_uI m1 164 55 (loavesOf bt a b)) := offM_uI ⟨rfl, rfl⟩
      have g55 : (mm_uI m1 164 55 (loavesOf bt a b)).1 164 55 = loavesOf bt a b := uI_at _ _ _ _
      generalize mm_uI m1 164 55 (loavesOf bt a b) = m2 at o2 g55 ⊢
      have o12 : offM wA M m2 := offM_tr (offM_mono o1 (fun c j q => by unfold wA; omega)) (offM_mono o2 (fun c j q => by unfold wA; omega))
      have hG2 : mm_G m2.2.2 := by rw [o2.2.2]; exact hG1
      refine m_pairOf hG2 ha hb hab ?_
      have hU2 : mU U m2 := mU_off hU o12 (fun c j q => by unfold wA at q; omega)
      have hN2 : mN N m2 := mN_off hN o12 (fun c j q => by unfold wA at q; omega)
      refine m_kind (w := 3) (al := alC) (F := fC N.1 (N.2.2.2.2 a b) (loavesOf bt a b)) hG2 hU2 (by decide) (by rw [o12.1 _ _ (by unfold wA; omega)]; exact ct) fC_all vu.2.2.2.2.2.2.1 (fC_ok (okz_of vn.1 (by omega) (by omega)) (okz_of (vn.2.2.2.2.1 a b) (by omega) (by omega)) (loaves_ok _ _ _)) (fun m3 o3 k v q => ?_) (fun m3 z o3 hz => ?_)
      · rcases fC_of q with ⟨rfl, rfl⟩ | ⟨rfl, rfl⟩ | ⟨rfl, rfl⟩
        · exact Or.inr (Or.inr (Or.inr (Or.inl ⟨rfl, by rw [o3.1 _ _ (by omega), hN2.1]⟩)))
        · exact Or.inr (Or.inr (Or.inr (Or.inr (Or.inl ⟨rfl, by rw [o3.2.1 _ _ (by omega), o2.2.1 _ _ (by omega), g54, Int32.toInt_toInt64]⟩))))
        · exact Or.inr (Or.inr (Or.inr (Or.inr (Or.inr (Or.inl ⟨rfl, by rw [o3.1 _ _ (by omega), g55]⟩)))))
      · refine m_cut (by rw [o3.2.2]; exact hG2) ?_
        rw [hz, n22, nI_clamp (by omega)]
        refine ⟨vp_in_nI (by omega) (by decide), hK _ ?_ (mN_uP (mN_off hN2 o3 (fun c j q => by unfold wA at q; omega)) ha hb hab)⟩
        exact offM_tr (offM_mono (offM_tr o12 o3) (fun c j q => Or.inl q)) (offM_uI (Or.inr ⟨rfl, by omega⟩))
  · rw [if_neg c]
    refine ipos rfl (hK M offM_rf ?_)
    have hS : coolS U bt a N b = N := by unfold coolS; rw [if_neg c]
    rw [hS]; exact hN
theorem m_grow {d h : Nat} {U : dU} {N : dN} {M : mm_M} {K : mm_M → Prop} (hG : mm_G M.2.2) (hU : mU U M) (hN : mN N M) (vu : vU U) (vn : vN U N) (hh : h < 7) (ht : N.2.1.testBit h = true) (hK : ∀ m, offM wC M m → mN (growS U N h) m → K m) : mm_CV mX12_grow (d + 7) [.ref 164, .int (nI h)] M K := by
  refine rX12_grow hG ?_
  have hhs := bit_lt vn ht
  have hS : growS U N h = (N.1, N.2.1, setF N.2.2.1 h (bnd ((N.2.2.1 h).toInt + val (fH U N h) (U.2.2.2 4))), N.2.2.2.1, N.2.2.2.2) := by unfold growS; rw [if_pos ht]
  rw [hS] at hK
  have o1 : offM (fun c j => c = 164 ∧ (j = 52 ∨ j = 53)) M (mm_uI (mm_uI M 164 52 (nI h)) 164 53 (nI h)) := offM_tr (offM_uI (by omega)) (offM_uI (by omega))
  have g52 : (mm_uI (mm_uI M 164 52 (nI h)) 164 53 (nI h)).1 164 52 = nI h := by rw [uI_j (by decide), uI_at]
  have g53 : (mm_uI (mm_uI M 164 52 (nI h)) 164 53 (nI h)).1 164 53 = nI h := uI_at _ _ _ _
  generalize mm_uI (mm_uI M 164 52 (nI h)) 164 53 (nI h) = m at o1 g52 g53 ⊢
  have hGm : mm_G m.2.2 := by rw [o1.2.2]; exact hG
  have hUm : mU U m := mU_off hU o1 (fun c j q => by omega)
  have hNm : mN N m := mN_off hN o1 (fun c j q => by omega)
  have oA : offM wC M m := offM_mono o1 (fun c j q => by unfold wC wA; omega)
  refine m_flourOf hGm hNm hh (m_isTold (w := 4) hGm (by decide) ?_)
  rw [mx2 h (by omega), nI_clamp (by omega)]
  have hf := vn.2.2.1 h
  unfold inI at hf
  by_cases c : m.1 196 (5 + 4) = -1
  · rw [if_pos c]
    refine ipos rfl (m_cut hGm ⟨vp_in_nI (by omega) (by decide), hK _ (offM_tr oA (offM_uI (Or.inr ⟨rfl, by omega⟩))) ?_⟩)
    have : ((N.2.2.1 h).toInt64 + 1).toInt = (N.2.2.1 h).toInt + val (fH U N h) (U.2.2.2 4) := by
      rw [told_no hUm (by decide) c, val_d4, Int64.toInt_add, Int32.toInt_toInt64]
      show ((N.2.2.1 h).toInt + 1).bmod _ = _
      rw [bm64 (by omega) (by omega)]
    rw [this]
    exact mN_uF hNm hh
  · rw [if_neg c]
    refine ineg (by decide) ?_
    have hok := (okc_val vu.2.2.2.2.2.2.2 fH_all (fH_ok (N := N) (b := h) vu vn)).2.1
    unfold okz at hok
    refine m_kind (w := 4) (al := alH) (F := fH U N h) hGm hUm (by decide) c fH_all vu.2.2.2.2.2.2.2 (fH_ok vu vn) (fun m2 o2 => mF_H (mU_off hUm o2 (fun c j q => by omega)) (mN_off hNm o2 (fun c j q => by omega)) hhs hh (by rw [o2.1 _ _ (by omega)]; exact g52) (by rw [o2.1 _ _ (by omega)]; exact g53)) (fun m2 z o2 hz => ?_)
    refine m_cut (by rw [o2.2.2]; exact hGm) ⟨vp_in_nI (by omega) (by decide), hK _ (offM_tr (offM_tr oA (offM_mono o2 (fun c j q => Or.inl q))) (offM_uI (Or.inr ⟨rfl, by omega⟩))) ?_⟩
    have : ((N.2.2.1 h).toInt64 + z).toInt = (N.2.2.1 h).toInt + val (fH U N h) (U.2.2.2 4) := by
      rw [Int64.toInt_add, Int32.toInt_toInt64, hz, bm64 (by omega) (by omega)]
    rw [this]
    exact mN_uF (mN_off hNm o2 (fun c j q => by unfold wA at q; omega)) hh
