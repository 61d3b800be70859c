/-! ===== dayGoes ===== -/
theorem m_day_starve {d : Nat} {U : dU} {M : mm_M} {K : mm_M → Prop} (hG : mm_G M.2.2) (hU : mU U M) (vu : vU U) : ∀ (k i : Nat) (N : dN) (m : mm_M), i + k = 7 → i ≤ U.2.1 → vN U N → offM wC M m → mN N m → (∀ m', offM wC M m' → mN ((List.range' i k).foldl (starveS U) N) m' → jX12_dayGoes_43 (d + 7) m' K 0) → jX12_dayGoes_6 (d + 7) m K (nI i) := by
  intro k
  induction k with
  | zero =>
    intro i N m hi hs vn ho hN hK
    have hu7 := vu.2.1
    have hGm : mm_G m.2.2 := by rw [ho.2.2]; exact hG
    have hUm : mU U m := mU_off hU ho (fun c j q => by unfold wC wA at q; omega)
    refine lX12_dayGoes_6 hGm (m_houseMany hGm ?_)
    rw [hUm.2.1]
    exact ipos (nI_le (by omega) (by omega)) (hK m ho hN)
  | succ k ih =>
    intro i N m hi hs vn ho hN hK
    have hu7 := vu.2.1
    have hi7 : i < 7 := by omega
    have hGm : mm_G m.2.2 := by rw [ho.2.2]; exact hG
    have hUm : mU U m := mU_off hU ho (fun c j q => by unfold wC wA at q; omega)
    refine lX12_dayGoes_6 hGm (m_houseMany hGm ?_)
    rw [hUm.2.1, nI_1]
    by_cases hx : U.2.1 ≤ i
    · refine ipos (nI_le hx (by omega)) (hK m ho ?_)
      rw [fold_id (List.range' i (k + 1)) (fun j hj => ?_)]
      · exact hN
      · have hji := range_ge hj
        unfold starveS
        rw [if_neg]
        intro q
        have := bit_lt vn (Bool.and_eq_true_iff.mp q).1
        omega
    · refine ineg (nI_ge (by omega) (by omega)) (m_isThere hGm hN hi7 ?_)
      rw [List.range'_succ, List.foldl_cons] at hK
      by_cases c : N.2.1.testBit i = true
      · rw [if_pos c]
        refine ineg (by decide) (m_doesStarve hGm hUm hN vu vn (by omega) hi7 (fun m1 o1 => ?_))
        have ho1 : offM wC M m1 := offM_tr ho (offM_mono o1 (fun c j q => Or.inl q))
        have hN1 : mN N m1 := mN_off hN o1 (fun c j q => by unfold wA at q; omega)
        have hv := starveS_v (h := i) vu vn
        by_cases z : starvesA U N i = true
        · rw [if_pos z]
          have hS : starveS U N i = goneA N i := by unfold starveS; rw [c, z]; rfl
          rw [hS] at hK hv
          refine ineg (by decide) (m_isGone (by rw [ho1.2.2]; exact hG) (mU_off hUm o1 (fun c j q => by unfold wA at q; omega)) hN1 vu vn hi7 (fun m2 o2 hN2 => ?_))
          exact ih (i + 1) _ m2 (by omega) (by omega) hv (offM_tr ho1 (offM_mono o2 (fun c j q => Or.inr q))) hN2 hK
        · rw [if_neg z]
          have hS : starveS U N i = N := by unfold starveS; rw [if_neg]; simp [z]
          rw [hS] at hK
          exact ipos rfl (ih (i + 1) N m1 (by omega) (by omega) vn ho1 hN1 hK)
      · rw [if_neg c]
        have hS : starveS U N i = N := by unfold starveS; rw [if_neg]; simp [c]
        rw [hS] at hK
        exact ipos rfl (ih (i + 1) N m (by omega) (by omega) vn ho hN hK)
theorem hate0 {U : dU} {N : dN} {p q : Nat} (vn : vN U N) (z : ¬ (p < U.2.1 ∧ q < U.2.1)) : ¬ 0 < N.2.2.2.2 p q := fun w => by
  have := vn.2.2.2.2.2.2.2 p q w
  exact z ⟨bit_lt vn this.1, bit_lt vn this.2⟩
theorem m_day_cool_in {d i : Nat} {bt : Nat → Option (Nat × Int32)} {U : dU} {M : mm_M} {K : mm_M → Prop} (hG : mm_G M.2.2) (hU : mU U M) (vu : vU U) (hi : i < U.2.1) (h204 : ∀ a b, a < 7 → b < 7 → a ≠ b → M.1 204 (pr a b) = loavesOf bt a b) : ∀ (k j : Nat) (N : dN) (m : mm_M), j + k = 7 → i < j → j ≤ U.2.1 → vN U N → offM wC M m → mN N m → (∀ m', offM wC M m' → mN ((List.range' j k).foldl (coolS U bt i) N) m' → jX12_dayGoes_43 (d + 7) m' K (nI (i + 1))) → jX12_dayGoes_55 (d + 7) m K (nI i) (nI j) := by
  have hu7 := vu.2.1
  intro k
  induction k with
  | zero =>
    intro j N m hj hij hs vn ho hN hK
    have hGm : mm_G m.2.2 := by rw [ho.2.2]; exact hG
    have hUm : mU U m := mU_off hU ho (fun c j q => by unfold wC wA at q; omega)
    refine lX12_dayGoes_55 hGm (m_houseMany hGm ?_)
    rw [hUm.2.1, nI_1]
    exact ipos (nI_le (by omega) (by omega)) (hK m ho hN)
  | succ k ih =>
    intro j N m hj hij hs vn ho hN hK
    have hGm : mm_G m.2.2 := by rw [ho.2.2]; exact hG
    have hUm : mU U m := mU_off hU ho (fun c j q => by unfold wC wA at q; omega)
    refine lX12_dayGoes_55 hGm (m_houseMany hGm ?_)
    rw [hUm.2.1, nI_1]
    by_cases hx : U.2.1 ≤ j
    · refine ipos (nI_le hx (by omega)) (hK m ho ?_)
      rw [fold_id (List.range' j (k + 1)) (fun q hq => ?_)]
      · exact hN
      · have hji := range_ge hq
        unfold coolS
        rw [if_neg (hate0 vn (by omega))]
    · refine ineg (nI_ge (by omega) (by omega)) ?_
      rw [List.range'_succ, List.foldl_cons] at hK
      refine m_cool (bt := bt) hGm hUm hN vu vn (by omega) (by omega) (by omega) (by rw [ho.1 _ _ (by unfold wC wA; omega)]; exact h204 i j (by omega) (by omega) (by omega)) (fun m1 o1 hN1 => ?_)
      rw [nI_1]
      exact ih (j + 1) _ m1 (by omega) (by omega) (by omega) (coolS_v vn) (offM_tr ho o1) hN1 hK
theorem m_day_cool {d : Nat} {bt : Nat → Option (Nat × Int32)} {U : dU} {M : mm_M} {K : mm_M → Prop} (hG : mm_G M.2.2) (hU : mU U M) (vu : vU U) (h204 : ∀ a b, a < 7 → b < 7 → a ≠ b → M.1 204 (pr a b) = loavesOf bt a b) : ∀ (k i : Nat) (N : dN) (m : mm_M), i + k = 7 → i ≤ U.2.1 → vN U N → offM wC M m → mN N m → (∀ m', offM wC M m' → mN ((List.range' i k).foldl (fun N a => (List.range' (a + 1) (6 - a)).foldl (coolS U bt a) N) N) m' → jX12_dayGoes_83 (d + 7) m' K 0) → jX12_dayGoes_43 (d + 7) m K (nI i) := by
  have hu7 := vu.2.1
  intro k
  induction k with
  | zero =>
    intro i N m hi hs vn ho hN hK
    have hGm : mm_G m.2.2 := by rw [ho.2.2]; exact hG
    have hUm : mU U m := mU_off hU ho (fun c j q => by unfold wC wA at q; omega)
    refine lX12_dayGoes_43 hGm (m_houseMany hGm ?_)
    rw [hUm.2.1]
    exact ipos (nI_le (by omega) (by omega)) (hK m ho hN)
  | succ k ih =>
    intro i N m hi hs vn ho hN hK
    have hGm : mm_G m.2.2 := by rw [ho.2.2]; exact hG
    have hUm : mU U m := mU_off hU ho (fun c j q => by unfold wC wA at q; omega)
    refine lX12_dayGoes_43 hGm (m_houseMany hGm ?_)
    rw [hUm.2.1, nI_1]
    by_cases hx : U.2.1 ≤ i
    · refine ipos (nI_le hx (by omega)) (hK m ho ?_)
      rw [fold_id (List.range' i (k + 1)) (fun q hq => ?_)]
      · exact hN
      · have hqi := range_ge hq
        refine fold_id _ (fun p hp => ?_)
        unfold coolS
        rw [if_neg (hate0 vn (by omega))]
    · refine ineg (nI_ge (by omega) (by omega)) ?_
      rw [List.range'_succ, List.foldl_cons] at hK
      refine m_day_cool_in hG hU vu (by omega) h204 (6 - i) (i + 1) N m (by omega) (by omega) (by omega) vn ho hN (fun m1 o1 hN1 => ?_)
      exact ih (i + 1) _ m1 (by omega) (by omega) (fold_v (P := vN U) (fun _ _ h => coolS_v h) _ _ vn) o1 hN1 hK
theorem m_day_grow {d : Nat} {U : dU} {M : mm_M} {K : mm_M → Prop} (hG : mm_G M.2.2) (hU : mU U M) (vu : vU U) : ∀ (k i : Nat) (N : dN) (m : mm_M), i + k = 7 → i ≤ U.2.1 → vN U N → offM wC M m → mN N m → (∀ m', offM wC M m' → mN ((List.range' i k).foldl (growS U) N) m' → K (mm_uI m' 199 0 (m'.1 199 0 + 1))) → jX12_dayGoes_83 (d + 7) m K (nI i) := by
  have hu7 := vu.2.1
  have t0 : (0 : Int32).toNatClampNeg = 0 := rfl
  intro k
  induction k with
  | zero =>
    intro i N m hi hs vn ho hN hK
    have hGm : mm_G m.2.2 := by rw [ho.2.2]; exact hG
    have hUm : mU U m := mU_off hU ho (fun c j q => by unfold wC wA at q; omega)
    refine lX12_dayGoes_83 hGm (m_houseMany hGm ?_)
    rw [hUm.2.1, t0]
    exact ipos (nI_le (by omega) (by omega)) (hK m ho hN)
  | succ k ih =>
    intro i N m hi hs vn ho hN hK
    have hGm : mm_G m.2.2 := by rw [ho.2.2]; exact hG
    have hUm : mU U m := mU_off hU ho (fun c j q => by unfold wC wA at q; omega)
    refine lX12_dayGoes_83 hGm (m_houseMany hGm ?_)
    rw [hUm.2.1, nI_1, t0]
    by_cases hx : U.2.1 ≤ i
    · refine ipos (nI_le hx (by omega)) (hK m ho ?_)
      rw [fold_id (List.range' i (k + 1)) (fun j hj => ?_)]
      · exact hN
      · have hji := range_ge hj
        unfold growS
        rw [if_neg]
        intro q
        have := bit_lt vn q
        omega
    · refine ineg (nI_ge (by omega) (by omega)) (m_isThere hGm hN (by omega) ?_)
      rw [List.range'_succ, List.foldl_cons] at hK
      by_cases c : N.2.1.testBit i = true
      · rw [if_pos c]
        refine ineg (by decide) (m_grow hGm hUm hN vu vn (by omega) c (fun m1 o1 hN1 => ?_))
        exact ih (i + 1) _ m1 (by omega) (by omega) (growS_v vn) (offM_tr ho o1) hN1 hK
      · rw [if_neg c]
        have hS : growS U N i = N := by unfold growS; rw [if_neg c]
        rw [hS] at hK
        exact ipos rfl (ih (i + 1) N m (by omega) (by omega) vn ho hN hK)
/-- a day as the reference has it -/
def dayM (U : dU) (N : dN) (rest : Nat) : dN := (N.1 + 1, (dayA U N rest).2)
def mR (th : Bool) (L : List dQ) (U : dU) (N : dN) (rest : Nat) (M m : mm_M) : Prop := offM wE M m ∧ mN (dayM U N rest) m ∧ (∀ e, e < U.2.1 → m.1 202 e = bkR ((serveA U N rest).2.2.1 e)) ∧ (∀ e q, e < U.2.1 → (serveA U N rest).2.2.1 e = some q → m.1 203 e = q.2) ∧ m.1 164 58 = M.1 164 58 + nI (serveA U N rest).2.2.2.length ∧ mK (keptA (!th) L N.1 (serveA U N rest).2.2.2) m
theorem m_dayGoes {d rest : Nat} {th : Bool} {L : List dQ} {U : dU} {N : dN} {M : mm_M} {K : mm_M → Prop} (hG : mm_G M.2.2) (hU : mU U M) (hN : mN N M) (vu : vU U) (vn : vN U N) (hr : rest < 128) (h59 : M.1 164 59 = nI rest) (hth : M.1 164 57 = if th then 1 else 0) (hL : mK L M) (hK : ∀ m, mR th L U N rest M m → K m) : mm_CV mX12_dayGoes (d + 11) [.ref 164] M K := by
  refine rX12_dayGoes hG (m_allEat hG hU hN vu vn hr h59 hth hL (fun m1 S1 => ?_))
  obtain ⟨o1, n1, b202, b203, -, b204, -, b58, bk⟩ := S1
  have hG1 : mm_G m1.2.2 := by rw [o1.2.2]; exact hG
  have hU1 : mU U m1 := mU_off hU o1 (fun c j q => by unfold wE wA at q; omega)
  have v1 := serveA_v (rest := rest) vu vn
  refine m_day_starve (d := d + 3) (M := m1) hG1 hU1 vu 7 0 _ m1 (by omega) (by omega) v1 offM_rf n1 (fun m2 o2 n2 => ?_)
  have v2 := starveA_v vu v1
  refine m_day_cool (d := d + 3) (M := m1) hG1 hU1 vu b204 7 0 _ m2 (by omega) (by omega) v2 o2 n2 (fun m3 o3 n3 => ?_)
  have v3 := coolA_v (bt := (serveA U N rest).2.2.1) v2
  refine m_day_grow (d := d + 3) (M := m1) hG1 hU1 vu 7 0 _ m3 (by omega) (by omega) v3 o3 n3 (fun m4 o4 n4 => ?_)
  have n4 : mN (dayA U N rest) m4 := n4
  have hd : (dayA U N rest).1 = N.1 := dayA_d
  rw [n4.1, hd]
  have o5 : offM (fun c j => c = 199 ∧ j = 0) m4 (mm_uI m4 199 0 (N.1 + 1)) := offM_uI ⟨rfl, rfl⟩
  refine hK _ ⟨offM_tr (offM_tr o1 (offM_mono o4 (fun c j q => by unfold wC at q; unfold wE; rcases q with q | q; exact Or.inl q; omega))) (offM_mono o5 (fun c j q => by unfold wE; omega)), ?_, fun e he => ?_, fun e q he hq => ?_, ?_, ?_⟩
  · obtain ⟨h1, h2, h3, h4, h5⟩ := n4
    exact ⟨uI_at _ _ _ _, fun k hk => by rw [uI_j (by omega)]; exact h2 k hk, fun k hk => by rw [uI_j (by omega)]; exact h3 k hk, fun k hk => by rw [uI_j (by omega)]; exact h4 k hk, fun p q hp hq hpq => by rw [uI_j (by omega)]; exact h5 p q hp hq hpq⟩
  · rw [o5.1 _ _ (by omega), o4.1 _ _ (by unfold wC wA; omega)]; exact b202 e he
  · rw [o5.1 _ _ (by omega), o4.1 _ _ (by unfold wC wA; omega)]; exact b203 e q he hq
  · rw [o5.1 _ _ (by omega), o4.1 _ _ (by unfold wC wA; omega)]; exact b58
  · have := mK_off (mK_off bk o4 (fun c j q => by unfold wC wA at q; omega)) o5 (fun c j q => by omega)
    rw [serveA_d.1] at this
    exact this
