/-! ===== feuds that are wanting: the reference ===== -/
def bgo : Nat → Int32 → Int32 → Option Int32
  | 0, _, _ => none
  | n + 1, y1, y2 => if y2 = 0 then some y1 else bgo n (y1 + 1) (y2 &&& (y2 - 1))
theorem bgo_is : ∀ n, n < 1024 → bgo 11 0 (nI n) = some (nI (pop n)) := by decide +kernel
theorem m_bits {d n : Nat} {M : mm_M} {K : Int32 → mm_M → Prop} (hG : mm_G M.2.2) (hn : n < 1024) (hK : K (nI (pop n)) M) : mm_CI mX12_bits d [.int (nI n)] M K := by
  have loop : ∀ (f : Nat) (y1 y2 r : Int32), bgo f y1 y2 = some r → K r M → jX12_bits_4 d (nI n) M K y1 y2 := by
    intro f
    induction f with
    | zero => intro y1 y2 r h; cases h
    | succ f ih =>
      intro y1 y2 r h hr
      have h : (if y2 = 0 then some y1 else bgo f (y1 + 1) (y2 &&& (y2 - 1))) = some r := h
      by_cases c : y2 = 0
      · rw [if_pos c] at h
        cases h
        exact lX12_bits_4 hG (ipos c hr)
      · rw [if_neg c] at h
        exact lX12_bits_4 hG (ineg c (ih _ _ r h hr))
  exact rX12_bits hG (loop 11 0 (nI n) _ (bgo_is n hn) hK)
theorem mod_or : ∀ b, b < 128 → ∀ i, i < 7 → (b % 2 ^ i) ||| (if b.testBit i then 2 ^ i else 0) = b % 2 ^ (i + 1) := by decide +kernel
theorem m_thereSet {d : Nat} {U : dU} {N : dN} {M : mm_M} {K : Int32 → mm_M → Prop} (hG : mm_G M.2.2) (hU : mU U M) (hN : mN N M) (vu : vU U) (vn : vN U N) (hK : K (nI N.2.1) M) : mm_CI mX12_thereSet (d + 1) [.ref 164] M K := by
  have hu7 := vu.2.1
  have hth := vN_lt vu vn
  have loop : ∀ (k i : Nat), i + k = U.2.1 → jX12_thereSet_4 d M K (nI (N.2.1 % 2 ^ i)) (nI i) := by
    intro k
    induction k with
    | zero =>
      intro i hi
      refine lX12_thereSet_4 hG (m_houseMany hG ?_)
      rw [hU.2.1]
      refine ipos (nI_le (by omega) (by omega)) ?_
      obtain rfl : i = U.2.1 := by omega
      rw [Nat.mod_eq_of_lt vn.2.1]
      exact hK
    | succ k ih =>
      intro i hi
      have hi7 : i < 7 := by omega
      refine lX12_thereSet_4 hG (m_houseMany hG ?_)
      rw [hU.2.1]
      refine ineg (nI_ge (by omega) (by omega)) (m_isThere hG hN hi7 ?_)
      have hm := mod_or N.2.1 hth i hi7
      have hlt : N.2.1 % 2 ^ i < 128 := Nat.lt_of_le_of_lt (Nat.mod_le _ _) hth
      have ih := ih (i + 1) (by omega)
      rw [nI_1, (bit_or _ hlt i hi7).1]
      by_cases c : N.2.1.testBit i = true
      · rw [if_pos c] at hm
        rw [if_pos c]
        rw [← hm] at ih
        exact ineg (by decide) ih
      · rw [if_neg c, Nat.or_zero] at hm
        rw [if_neg c]
        rw [← hm] at ih
        exact ipos rfl ih
  have h := loop U.2.1 0 (by omega)
  rw [Nat.pow_zero, Nat.mod_one] at h
  exact rX12_thereSet hG h
def wDo (c j : Nat) : Prop := c = 205 ∨ c = 206 ∨ (c = 164 ∧ j = 66)
theorem m_doAllEat {d x : Nat} {U : dU} {N : dN} {M : mm_M} {K : Int32 → mm_M → Prop} (hG : mm_G M.2.2) (hU : mU U M) (hN : mN N M) (vu : vU U) (vn : vN U N) (hx : x < 2 ^ 21) (hK : ∀ m, offM wDo M m → K (if allA U N x then 1 else 0) m) : mm_CI mX12_doAllEat (d + 6) [.ref 164, .int (nI x)] M K := by
  have hth := vN_lt vu vn
  have h9 := hcN_9 vn
  refine rX12_doAllEat hG ?_
  have o1 : offM (fun c j => c = 164 ∧ j = 66) M (mm_uI M 164 66 (nI x)) := offM_uI ⟨rfl, rfl⟩
  have g66 : (mm_uI M 164 66 (nI x)).1 164 66 = nI x := uI_at _ _ _ _
  generalize mm_uI M 164 66 (nI x) = m1 at o1 g66 ⊢
  have hU1 : mU U m1 := mU_off hU o1 (fun c j q => by omega)
  have hN1 : mN N m1 := mN_off hN o1 (fun c j q => by omega)
  refine m_laysTable (x := x) (by rw [o1.2.2]; exact hG) hU1 hN1 vu vn hx g66 (fun m2 o2 h2 => ?_)
  have hG2 : mm_G m2.2.2 := by rw [o2.2.2, o1.2.2]; exact hG
  have hU2 : mU U m2 := mU_off hU1 o2 (fun c j q => by unfold wL at q; omega)
  have hN2 : mN N m2 := mN_off hN1 o2 (fun c j q => by unfold wL at q; omega)
  have ho : offM wDo M m2 := offM_tr (offM_mono o1 (fun c j q => Or.inr (Or.inr q))) (offM_mono o2 (fun c j q => by unfold wL at q; unfold wDo; omega))
  refine m_thereSet hG2 hU2 hN2 vu vn (m_bits hG2 (by omega) ?_)
  have t0 : (0 : Int32).toNatClampNeg = 0 := rfl
  have h0 := (h2 0 0 (Nat.le_refl _) (by omega) (by omega)).1
  rw [t0]
  rw [show 128 * 0 + 0 = 0 by omega, show 7 - 0 = 7 by omega] at h0
  rw [h0]
  have hK := hK m2 ho
  have l7 := (tb_le (sv := svX U N x) h9 (k := 7) (busy := 0) (Nat.le_refl _)).1
  have p7 := pop_7 N.2.1 hth
  unfold allA at hK
  by_cases c : (tb (svX U N x) (hcN N) 7 0).1 = pop N.2.1
  · refine ipos (by rw [c]) ?_
    simpa [c] using hK
  · refine ineg (fun q => c ((nI_eq (by omega) (by omega)).mp q)) ?_
    simpa [c] using hK
/-- pairs as the reference has them in two rows -/
def mFr (l : List Nat) (M : mm_M) : Prop := ∀ k p, l[k]? = some p → M.1 208 k = nI (p / 8) ∧ M.1 209 k = nI (p % 8)
def vPr (l : List Nat) : Prop := l.length ≤ 21 ∧ ∀ p ∈ l, p / 8 < p % 8 ∧ p % 8 < 7
theorem mFr_off {W : Nat → Nat → Prop} {l : List Nat} {M m : mm_M} (h : mFr l M) (ho : offM W M m) (hW : ∀ c j, W c j → ¬ (c = 208 ∨ c = 209)) : mFr l m := by
  intro k p hp
  rw [ho.1 _ _ (fun q => hW _ _ q (Or.inl rfl)), ho.1 _ _ (fun q => hW _ _ q (Or.inr rfl))]
  exact h k p hp
theorem sh21 : ∀ k, k < 21 → (1 : Int32) <<< (nI k &&& 31) = nI (2 ^ k) := by decide +kernel
theorem or2 : ∀ a, a < 21 → ∀ b, b < 21 → nI (2 ^ a) ||| nI (2 ^ b) = nI (2 ^ a ||| 2 ^ b) := by decide +kernel
theorem or3 : ∀ a, a < 21 → ∀ b, b < 21 → ∀ c, c < 21 → nI (2 ^ a ||| 2 ^ b) ||| nI (2 ^ c) = nI (2 ^ a ||| 2 ^ b ||| 2 ^ c) := by decide +kernel
theorem m_bitOf {d k p : Nat} {l : List Nat} {M : mm_M} {K : Int32 → mm_M → Prop} (hG : mm_G M.2.2) (hv : vPr l) (hl : mFr l M) (hp : l[k]? = some p) (hK : K (nI (2 ^ pr (p / 8) (p % 8))) M) : mm_CI mX12_bitOf (d + 1) [.ref 164, .int (nI k)] M K := by
  have hk : k < l.length := (List.getElem?_eq_some_iff.mp hp).1
  have h1 := hv.1
  obtain ⟨v1, v2⟩ := hv.2 p (List.mem_of_getElem? hp)
  obtain ⟨q1, q2⟩ := hl k p hp
  refine rX12_bitOf hG ⟨vp_in_nI (by omega) (by decide), vp_in_nI (by omega) (by decide), ?_⟩
  rw [nI_clamp (by omega), q1, q2]
  refine m_pairOf hG (by omega) v2 (by omega) ?_
  rw [sh21 _ (pr_lt _ (by omega) _ v2 (by omega))]
  exact hK
/-! laysFree -/
def freeTo (N : dN) (n : Nat) : List Nat := (List.range' 0 n).filter (freeB N)
theorem freeTo_1 {N : dN} {n : Nat} : freeTo N (n + 1) = if freeB N n then freeTo N n ++ [n] else freeTo N n := by
  unfold freeTo
  rw [List.range'_concat, List.filter_append]
  simp only [Nat.zero_add, Nat.one_mul]
  by_cases c : freeB N n = true
  · rw [if_pos c, List.filter_cons_of_pos c, List.filter_nil]
  · rw [if_neg c, List.filter_cons_of_neg c, List.filter_nil, List.append_nil]
theorem freeTo_skip {N : dN} {n : Nat} : ∀ k, (∀ p, n ≤ p → p < n + k → freeB N p = false) → freeTo N (n + k) = freeTo N n
  | 0, _ => rfl
  | k + 1, h => by
    rw [show n + (k + 1) = (n + k) + 1 by omega, freeTo_1, h (n + k) (by omega) (by omega)]
    exact freeTo_skip k (fun p p1 p2 => h p p1 (by omega))
theorem free21 : ∀ n, n < 57 → ((List.range' 0 n).countP (fun p => decide (p / 8 < p % 8 ∧ p % 8 < 7))) ≤ 21 := by decide +kernel
theorem freeB_v {N : dN} {p : Nat} (h : freeB N p = true) : p / 8 < p % 8 ∧ p % 8 < 7 := by
  unfold freeB at h
  simp only [Bool.and_eq_true, decide_eq_true_eq] at h
  exact h.1.1
theorem freeTo_len {N : dN} {n : Nat} (hn : n < 57) : (freeTo N n).length ≤ 21 := by
  unfold freeTo
  rw [← List.countP_eq_length_filter]
  exact Nat.le_trans (List.countP_mono_left (fun p _ h => by simpa using freeB_v h)) (free21 n hn)
theorem freeB_no {U : dU} {N : dN} {p : Nat} (vn : vN U N) (h : p % 8 ≤ p / 8 ∨ U.2.1 ≤ p % 8) : freeB N p = false := by
  apply Bool.eq_false_iff.mpr
  intro q
  have q1 := freeB_v q
  unfold freeB at q
  simp only [Bool.and_eq_true] at q
  have := bit_lt vn q.1.2.2
  omega
def wF (c _j : Nat) : Prop := c = 208 ∨ c = 209
theorem m_free_in {d a : Nat} {U : dU} {N : dN} {M : mm_M} {K : Int32 → mm_M → Prop} (hG : mm_G M.2.2) (hU : mU U M) (hN : mN N M) (vu : vU U) (vn : vN U N) (ha : a < U.2.1) : ∀ (k b : Nat) (m : mm_M), b + k = U.2.1 → a < b → offM wF M m → mFr (freeTo N (8 * a + b)) m → (∀ m', offM wF M m' → mFr (freeTo N (8 * a + 8)) m' → jX12_laysFree_4 (d + 2) m' K (nI (freeTo N (8 * a + 8)).length) (nI (a + 1))) → jX12_laysFree_16 (d + 2) m K (nI (freeTo N (8 * a + b)).length) (nI a) (nI b) := by
  have hu7 := vu.2.1
  intro k
  induction k with
  | zero =>
    intro b m hb hab ho h hK
    have hGm : mm_G m.2.2 := by rw [ho.2.2]; exact hG
    have hUm : mU U m := mU_off hU ho (fun c j q => by unfold wF at q; omega)
    refine lX12_laysFree_16 hGm (m_houseMany hGm ?_)
    rw [hUm.2.1, nI_1]
    have e : freeTo N (8 * a + 8) = freeTo N (8 * a + b) := by
      rw [show 8 * a + 8 = (8 * a + b) + (8 - b) by omega]
      exact freeTo_skip _ (fun p p1 p2 => freeB_no vn (by omega))
    rw [e] at hK
    exact ipos (nI_le (by omega) (by omega)) (hK m ho h)
  | succ k ih =>
    intro b m hb hab ho h hK
    have hGm : mm_G m.2.2 := by rw [ho.2.2]; exact hG
    have hUm : mU U m := mU_off hU ho (fun c j q => by unfold wF at q; omega)
    have hNm : mN N m := mN_off hN ho (fun c j q => by unfold wF at q; omega)
    have hd : (8 * a + b) / 8 = a := by omega
    have hr : (8 * a + b) % 8 = b := by omega
    have f1 := freeTo_1 (N := N) (n := 8 * a + b)
    have no : freeB N (8 * a + b) = false → jX12_laysFree_16 (d + 2) m K (nI (freeTo N (8 * a + b)).length) (nI a) (nI (b + 1)) := fun hf => by
      rw [hf] at f1
      have f1 : freeTo N (8 * a + (b + 1)) = freeTo N (8 * a + b) := f1
      have := ih (b + 1) m (by omega) (by omega) ho (by rw [f1]; exact h) hK
      rw [f1] at this
      exact this
    refine lX12_laysFree_16 hGm (m_houseMany hGm ?_)
    rw [hUm.2.1, nI_1, nI_1]
    refine ineg (nI_ge (by omega) (by omega)) (m_isThere hGm hNm (by omega) ?_)
    by_cases c1 : N.2.1.testBit a = true
    · rw [if_pos c1]
      refine ineg (by decide) (m_isThere hGm hNm (by omega) ?_)
      by_cases c2 : N.2.1.testBit b = true
      · rw [if_pos c2]
        refine ineg (by decide) (m_areEnemies (U := U) hGm hNm vn (by omega) (by omega) ?_)
        by_cases c3 : 0 < N.2.2.2.2 a b
        · rw [if_pos c3]
          refine ineg (by decide) (no ?_)
          unfold freeB
          rw [hd, hr]
          simp [c3]
        · rw [if_neg c3]
          have hf : freeB N (8 * a + b) = true := by
            unfold freeB
            rw [hd, hr, c1, c2]
            have h7 : b < 7 := by omega
            simp [c3, hab, h7]
          rw [if_pos hf] at f1
          have f1 : freeTo N (8 * a + (b + 1)) = freeTo N (8 * a + b) ++ [8 * a + b] := f1
          have hlen := freeTo_len (N := N) (n := 8 * a + (b + 1)) (by omega)
          rw [f1, List.length_append] at hlen
          have hlen : (freeTo N (8 * a + b)).length + 1 ≤ 21 := hlen
          refine ipos rfl ⟨vp_in_nI (by omega) (by decide), vp_in_nI (by omega) (by decide), ?_⟩
          rw [nI_clamp (by omega), nI_1]
          have := ih (b + 1) (mm_uI (mm_uI m 208 (freeTo N (8 * a + b)).length (nI a)) 209 (freeTo N (8 * a + b)).length (nI b)) (by omega) (by omega) (offM_tr ho (offM_tr (offM_uI (Or.inl rfl)) (offM_uI (Or.inr rfl)))) ?_ hK
          · rw [f1, List.length_append] at this
            exact this
          · rw [f1]
            intro k' p hp
            by_cases z : k' < (freeTo N (8 * a + b)).length
            · rw [List.getElem?_append_left z] at hp
              have z' : k' ≠ (freeTo N (8 * a + b)).length := by omega
              rw [uI_c (c := 208) (by decide), uI_j (a := 208) z', uI_j (a := 209) z', uI_c (c := 209) (by decide)]
              exact h k' p hp
            · have hk' : k' = (freeTo N (8 * a + b)).length := by
                have := (List.getElem?_eq_some_iff.mp hp).1
                rw [List.length_append] at this
                have : k' < (freeTo N (8 * a + b)).length + 1 := this
                omega
              subst hk'
              rw [List.getElem?_append_right (Nat.le_refl _), Nat.sub_self] at hp
              have : 8 * a + b = p := by simpa using hp
              subst this
              rw [uI_c (c := 208) (by decide), uI_at, uI_at, hd, hr]
              exact ⟨rfl, rfl⟩
      · rw [if_neg c2]
        refine ipos rfl (no ?_)
        unfold freeB
        rw [hd, hr]
        simp [c2]
    · rw [if_neg c1]
      refine ipos rfl (no ?_)
      unfold freeB
      rw [hd, hr]
      simp [c1]
theorem m_laysFree {d : Nat} {U : dU} {N : dN} {M : mm_M} {K : Int32 → mm_M → Prop} (hG : mm_G M.2.2) (hU : mU U M) (hN : mN N M) (vu : vU U) (vn : vN U N) (hK : ∀ m, offM wF M m → mFr (freeP N 0) m → K (nI (freeP N 0).length) m) : mm_CI mX12_laysFree (d + 3) [.ref 164] M K := by
  have hu7 := vu.2.1
  have hK : ∀ m, offM wF M m → mFr (freeTo N 56) m → K (nI (freeTo N 56).length) m := hK
  have loop : ∀ (k a : Nat) (m : mm_M), a + k = U.2.1 → offM wF M m → mFr (freeTo N (8 * a)) m → jX12_laysFree_4 (d + 2) m K (nI (freeTo N (8 * a)).length) (nI a) := by
    intro k
    induction k with
    | zero =>
      intro a m ha ho h
      have hGm : mm_G m.2.2 := by rw [ho.2.2]; exact hG
      have hUm : mU U m := mU_off hU ho (fun c j q => by unfold wF at q; omega)
      refine lX12_laysFree_4 hGm (m_houseMany hGm ?_)
      rw [hUm.2.1]
      have e : freeTo N 56 = freeTo N (8 * a) := by
        rw [show 56 = 8 * a + (56 - 8 * a) by omega]
        exact freeTo_skip _ (fun p p1 p2 => freeB_no vn (by omega))
      rw [e] at hK
      exact ipos (nI_le (by omega) (by omega)) (hK m ho h)
    | succ k ih =>
      intro a m ha ho h
      have hGm : mm_G m.2.2 := by rw [ho.2.2]; exact hG
      have hUm : mU U m := mU_off hU ho (fun c j q => by unfold wF at q; omega)
      refine lX12_laysFree_4 hGm (m_houseMany hGm ?_)
      rw [hUm.2.1, nI_1]
      refine ineg (nI_ge (by omega) (by omega)) ?_
      have e : freeTo N (8 * a + (a + 1)) = freeTo N (8 * a) := freeTo_skip _ (fun p p1 p2 => freeB_no vn (by omega))
      rw [← e]
      exact m_free_in hG hU hN vu vn (by omega) (U.2.1 - (a + 1)) (a + 1) m (by omega) (by omega) ho (by rw [e]; exact h) (fun m' o' h' => ih (a + 1) m' (by omega) o' h')
  exact rX12_laysFree hG (loop U.2.1 0 M (by omega) offM_rf (fun k p hp => by simp [freeTo] at hp))
theorem freeP_v {N : dN} : vPr (freeP N 0) := ⟨freeTo_len (N := N) (n := 56) (by decide), fun p hp => freeB_v (List.mem_filter.mp hp).2⟩
