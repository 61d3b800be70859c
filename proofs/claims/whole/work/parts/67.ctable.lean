/-! ===== the class's table ===== -/
theorem c_fill_loop {d r0 n0 : Nat} {x x1 : Int32} {M : mm_M} {K : mm_M → Prop} (hr : mm_SH[r0]? = some (0, n0)) (hn : n0 < 2 ^ 31) (hG : mm_G M.2.2) : ∀ (k i : Nat) (m : mm_M), i + k = n0 → offM (fun c _ => c = r0) M m → (∀ j, j < i → m.1 r0 j = x) → (∀ m', offM (fun c _ => c = r0) M m' → (∀ j, j < n0 → m'.1 r0 j = x) → K m') → jJ7_fill_53178_5 d r0 n0 x1 m K x (nI i) (nI n0) := by
  intro k
  induction k with
  | zero =>
    intro i m hi ho h hK
    obtain rfl : i = n0 := by omega
    exact lJ7_fill_53178_5 hr (by rw [ho.2.2]; exact hG) (ipos (nI_le (Nat.le_refl _) hn) (hK m ho h))
  | succ k ih =>
    intro i m hi ho h hK
    refine lJ7_fill_53178_5 hr (by rw [ho.2.2]; exact hG) (ineg (nI_ge (by omega) hn) ⟨vp_in_nI (by omega) hn, ?_⟩)
    rw [nI_1, nI_clamp (by omega)]
    refine ih (i + 1) _ (by omega) (offM_tr ho (offM_uI rfl)) (fun j hj => ?_) hK
    by_cases c : j = i
    · subst c; exact uI_at _ _ _ _
    · rw [uI_j c]; exact h j (by omega)
theorem c_fill {d r0 n0 : Nat} {x : Int32} {M : mm_M} {K : mm_M → Prop} (hr : mm_SH[r0]? = some (0, n0)) (hn : n0 < 2 ^ 31) (hG : mm_G M.2.2) (hK : ∀ m, offM (fun c _ => c = r0) M m → (∀ j, j < n0 → m.1 r0 j = x) → K m) : mm_CV mJ7_fill_53178 d [.ref r0, .int x] M K :=
  rJ7_fill_53178 hr hG (c_fill_loop (M := M) hr hn hG n0 0 M (by omega) offM_rf (fun j hj => by omega) hK)
/-- what a meal is worth -/
def mealN (U : dU) (N : dN) (e b : Nat) : Nat := if svN U N e b then 1000 - hcN N e b else 0
theorem c_weigh_in {d a r e : Nat} {U : dU} {N : dN} {M : mm_M} {K : mm_M → Prop} (hr : r ∈ mm_Rls) (ha : a ∈ mm_Sts) (hG : mm_G M.2.2) (hN : cN a N M) (hl : M.1 r 1 = U.1) (vn : vN U N) (he : e < 7) : ∀ (k b : Nat) (m : mm_M), b + k = 7 → offM (fun c _ => c = 153) M m → (∀ p q, q < 7 → p < e ∨ (p = e ∧ q < b) → m.1 153 (8 * p + q) = nI (mealN U N p q)) → (∀ m', offM (fun c _ => c = 153) M m' → (∀ p q, q < 7 → p < e + 1 → m'.1 153 (8 * p + q) = nI (mealN U N p q)) → jX10_weighMeals_2 d r a m' K (nI (e + 1))) → jX10_weighMeals_11 d r a m K (nI e) (nI b) := by
  have hs := St_at ha
  have hr' := Rl_at hr
  intro k
  induction k with
  | zero =>
    intro b m hb ho h hK
    obtain rfl : b = 7 := by omega
    refine lX10_weighMeals_11 hr ha (by rw [ho.2.2]; exact hG) (ipos (by decide) ?_)
    rw [nI_1]
    exact hK m ho (fun p q hq hp => h p q hq (by omega))
  | succ k ih =>
    intro b m hb ho h hK
    have hb7 : b < 7 := by omega
    have hGm : mm_G m.2.2 := by rw [ho.2.2]; exact hG
    refine lX10_weighMeals_11 hr ha hGm (ineg (lt7 hb7) ?_)
    rw [ix8 e (by omega) b (by omega), nI_clamp (n := 8 * e + b) (by omega), nI_clamp (n := b) (by omega), ho.1 (a + 3) _ (by omega), ho.1 (a + 1) _ (by omega), ho.1 r _ (by omega), hN.2.2.2.2 e b he hb7, hN.2.2.1 b hb7, hl]
    refine ⟨vp_in_nI (by omega) (by decide), ?_⟩
    have put : ∀ x : Int32, x = nI (mealN U N e b) → jX10_weighMeals_11 d r a (mm_uI m 153 (8 * e + b) x) K (nI e) (nI (b + 1)) := by
      intro x hx
      refine ih (b + 1) _ (by omega) (offM_tr ho (offM_uI rfl)) (fun p q hq hp => ?_) hK
      by_cases c : 8 * p + q = 8 * e + b
      · obtain ⟨rfl, rfl⟩ : p = e ∧ q = b := by omega
        rw [uI_at, hx]
      · rw [uI_j c]; exact h p q hq (by omega)
    have no : svN U N e b = false → jX10_weighMeals_56 d r a m K (nI e) (nI b) (N.2.2.2.2 e b) 0 := by
      intro q
      refine lX10_weighMeals_56 hr ha hGm (ipos rfl ?_)
      rw [ix8 e (by omega) b (by omega), nI_clamp (n := 8 * e + b) (by omega), nI_1]
      exact ⟨vp_in_nI (by omega) (by decide), put 0 (by unfold mealN; rw [q]; rfl)⟩
    by_cases c1 : N.2.2.2.2 e b ≤ 0
    · refine ipos c1 (no ?_)
      unfold svN
      have : ¬ 0 < N.2.2.2.2 e b := Int32.not_lt.mpr c1
      simp [this]
    · refine ineg c1 ⟨vp_in_nI hb7 (by decide), ?_⟩
      by_cases c2 : N.2.2.1 b < U.1
      · refine ipos c2 (no ?_)
        unfold svN
        have : ¬ U.1 ≤ N.2.2.1 b := Int32.not_le.mpr c2
        simp [this]
      · refine ineg c2 ?_
        have q : svN U N e b = true := by unfold svN; simp [Int32.not_le.mp c1, Int32.not_lt.mp c2]
        refine lX10_weighMeals_56 hr ha hGm (ineg (by decide) ?_)
        rw [ix8 e (by omega) b (by omega), nI_clamp (n := 8 * e + b) (by omega), nI_1]
        refine ⟨vp_in_nI (by omega) (by decide), put _ ?_⟩
        have h9 := hcN_9 vn e b
        rw [hcN_nI vn e b]
        unfold mealN
        rw [q, if_pos rfl]
        exact pk_sub (a := 1000) (b := hcN N e b) (by omega)
theorem c_weigh_out {d a r : Nat} {U : dU} {N : dN} {M : mm_M} {K : mm_M → Prop} (hr : r ∈ mm_Rls) (ha : a ∈ mm_Sts) (hG : mm_G M.2.2) (hN : cN a N M) (hl : M.1 r 1 = U.1) (vn : vN U N) : ∀ (k e : Nat) (m : mm_M), e + k = 7 → offM (fun c _ => c = 153) M m → (∀ p q, q < 7 → p < e → m.1 153 (8 * p + q) = nI (mealN U N p q)) → (∀ m', offM (fun c _ => c = 153) M m' → (∀ p q, p < 7 → q < 7 → m'.1 153 (8 * p + q) = nI (mealN U N p q)) → K m') → jX10_weighMeals_2 d r a m K (nI e) := by
  intro k
  induction k with
  | zero =>
    intro e m he ho h hK
    obtain rfl : e = 7 := by omega
    exact lX10_weighMeals_2 hr ha (by rw [ho.2.2]; exact hG) (ipos (by decide) (hK m ho (fun p q hp hq => h p q hq hp)))
  | succ k ih =>
    intro e m he ho h hK
    refine lX10_weighMeals_2 hr ha (by rw [ho.2.2]; exact hG) (ineg (lt7 (by omega)) ?_)
    exact c_weigh_in hr ha hG hN hl vn (by omega) 7 0 m (by omega) ho (fun p q hq hp => h p q hq (by omega)) (fun m' o' h' => ih (e + 1) m' (by omega) o' h' hK)
theorem c_weighMeals {d a r : Nat} {U : dU} {N : dN} {M : mm_M} {K : mm_M → Prop} (hr : r ∈ mm_Rls) (ha : a ∈ mm_Sts) (hG : mm_G M.2.2) (hN : cN a N M) (hl : M.1 r 1 = U.1) (vn : vN U N) (hK : ∀ m, offM (fun c _ => c = 153) M m → (∀ p q, p < 7 → q < 7 → m.1 153 (8 * p + q) = nI (mealN U N p q)) → K m) : mm_CV mX10_weighMeals d [.ref 149, .ref r, .ref a] M K :=
  rX10_weighMeals hr ha hG (c_weigh_out (U := U) hr ha hG hN hl vn 7 0 M (by omega) offM_rf (fun p q _ hp => by omega) hK)
theorem i128 (a b : Nat) : nI a * 128 + nI b = nI (128 * a + b) := by
  have : nI a * 128 = nI (a * 128) := pk_mul a 128
  rw [this, nI_add, Nat.mul_comm a 128]
theorem i128a (a b : Nat) : nI (128 * a) + nI b = nI (128 * a + b) := nI_add _ _
/-- the table's cells of the houses from i on -/
def cBest (sv : Nat → Nat → Bool) (hc : Nat → Nat → Nat) (i : Nat) (m : mm_M) : Prop := ∀ e busy, i ≤ e → e ≤ 7 → busy < 128 → m.1 152 (128 * e + busy) = nI (enc (tb sv hc (7 - e) busy))
theorem c_bestFrom {d e busy : Nat} {U : dU} {N : dN} {M : mm_M} {K : Int32 → mm_M → Prop} (hG : mm_G M.2.2) (vn : vN U N) (he : e < 7) (hb : busy < 128) (hB : cBest (svN U N) (hcN N) (e + 1) M) (hW : ∀ p q, p < 7 → q < 7 → M.1 153 (8 * p + q) = nI (mealN U N p q)) (hK : K (nI (enc (tb (svN U N) (hcN N) (7 - e) busy))) M) : mm_CI mX10_bestFrom (d + 1) [.ref 149, .int (nI e), .int (nI busy)] M K := by
  have h9 := hcN_9 vn
  have e1 : nI e + 1 = nI (e + 1) := nI_1 e
  refine rX10_bestFrom hG ?_
  have em : nI (e + 1) * 128 = nI (128 * (e + 1)) := by
    have : nI (e + 1) * 128 = nI ((e + 1) * 128) := pk_mul (e + 1) 128
    rw [this, Nat.mul_comm]
  rw [e1, em, i128a, nI_clamp (n := 128 * (e + 1) + busy) (by omega), hB (e + 1) busy (Nat.le_refl _) (by omega) hb]
  refine ⟨vp_in_nI (by omega) (by decide), ?_⟩
  have hk : 7 - e = (6 - e) + 1 := by omega
  have hk2 : 7 - (e + 1) = 6 - e := by omega
  have hk3 : 6 - (6 - e) = e := by omega
  rw [hk] at hK
  rw [hk2]
  have ok := tb_ok (sv := svN U N) h9 (6 - e)
  have loop : ∀ (k b : Nat) (acc : Nat × Nat), b + k = 7 → okq (6 - e + 1) acc → K (nI (enc ((List.range' b k).foldl (tbS (svN U N) (hcN N) e busy (tb (svN U N) (hcN N) (6 - e))) acc))) M → jX10_bestFrom_21 d (nI e) (nI busy) M K (nI e) (nI busy) (nI (128 * (e + 1))) (nI (enc acc)) (nI b) := by
    intro k
    induction k with
    | zero =>
      intro b acc hb7 ha hK
      obtain rfl : b = 7 := by omega
      exact lX10_bestFrom_21 hG (ipos (by decide) hK)
    | succ k ih =>
      intro b acc hb7 ha hK
      rw [List.range'_succ, List.foldl_cons] at hK
      refine lX10_bestFrom_21 hG (ineg (lt7 (by omega)) ?_)
      rw [ix8 e (by omega) b (by omega), nI_clamp (n := 8 * e + b) (by omega), hW e b he (by omega), nI_1]
      refine ⟨vp_in_nI (by omega) (by decide), ?_⟩
      have no : (svN U N e b && !(busy.testBit b)) = false → jX10_bestFrom_21 d (nI e) (nI busy) M K (nI e) (nI busy) (nI (128 * (e + 1))) (nI (enc acc)) (nI (b + 1)) := fun q => by
        have : tbS (svN U N) (hcN N) e busy (tb (svN U N) (hcN N) (6 - e)) acc b = acc := by unfold tbS; rw [q]; rfl
        rw [this] at hK
        exact ih (b + 1) acc (by omega) ha hK
      by_cases c1 : svN U N e b = true
      · have hm : mealN U N e b = 1000 - hcN N e b := by unfold mealN; rw [if_pos c1]
        have h99 := h9 e b
        refine ineg (by rw [hm]; exact nI_nle (by omega) (by omega)) ?_
        by_cases c2 : ((nI busy >>> (nI b &&& 31)) &&& 1) = 0
        · refine ipos c2 ?_
          have c2' := (bit_at _ hb _ (show b < 7 by omega)).mp c2
          obtain ⟨o1, o2⟩ := bit_or busy hb b (by omega)
          rw [o1, i128a, nI_clamp (n := 128 * (e + 1) + (busy ||| 2 ^ b)) (by omega), hB (e + 1) _ (Nat.le_refl _) (by omega) o2, nI_add, hm, hk2, ← enc_C h9 ok]
          refine ⟨vp_in_nI (by omega) (by decide), ?_⟩
          have okc := tbC_ok (busy := busy) (b := b) (e := e) h9 ok
          have hle := enc_le (by omega) okc
          have hle2 := enc_le (by omega) ha
          have hS : tbS (svN U N) (hcN N) e busy (tb (svN U N) (hcN N) (6 - e)) acc b = (if better (tbC (hcN N) e busy (tb (svN U N) (hcN N) (6 - e)) b) acc then tbC (hcN N) e busy (tb (svN U N) (hcN N) (6 - e)) b else acc) := by unfold tbS; rw [c1, c2']; rfl
          rw [hS] at hK
          by_cases c3 : better (tbC (hcN N) e busy (tb (svN U N) (hcN N) (6 - e)) b) acc = true
          · rw [if_pos c3] at hK
            rw [if_pos (nI_lt ((enc_lt (by omega) okc ha).mpr c3) (by omega))]
            exact ih (b + 1) _ (by omega) okc hK
          · rw [if_neg c3] at hK
            rw [if_neg (nI_nlt (by have := mt (enc_lt (by omega) okc ha).mp c3; omega) (by omega))]
            exact ih (b + 1) _ (by omega) ha hK
        · refine ineg c2 (no ?_)
          have := mt (bit_at _ hb _ (show b < 7 by omega)).mpr c2
          simp at this
          simp [this]
      · have hm : mealN U N e b = 0 := by unfold mealN; rw [if_neg c1]
        refine ipos (by rw [hm]; decide) (no ?_)
        simp [c1]
  refine loop 7 0 _ (by omega) ?_ ?_
  · have := ok busy; unfold okq at *; omega
  · have : tb (svN U N) (hcN N) (6 - e + 1) busy = (List.range' 0 7).foldl (tbS (svN U N) (hcN N) (6 - (6 - e)) busy (tb (svN U N) (hcN N) (6 - e))) (tb (svN U N) (hcN N) (6 - e) busy) := rfl
    rw [this, hk3] at hK
    exact hK
