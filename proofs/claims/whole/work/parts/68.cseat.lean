/-! ===== seat ===== -/
theorem c_firstBaker {d e busy : Nat} {U : dU} {N : dN} {M : mm_M} {K : Int32 → mm_M → Prop} (hG : mm_G M.2.2) (vn : vN U N) (he : e < 7) (hb : busy < 128) (hB : cBest (svN U N) (hcN N) 0 M) (hW : ∀ p q, p < 7 → q < 7 → M.1 153 (8 * p + q) = nI (mealN U N p q)) (hK : K (pickR (fbA (svN U N) (hcN N) (6 - e) busy)) M) : mm_CI mX10_firstBaker d [.ref 149, .int (nI e), .int (nI busy)] M K := by
  have h9 := hcN_9 vn
  have e1 : nI e + 1 = nI (e + 1) := nI_1 e
  have em : nI (e + 1) * 128 = nI (128 * (e + 1)) := by
    have : nI (e + 1) * 128 = nI ((e + 1) * 128) := pk_mul (e + 1) 128
    rw [this, Nat.mul_comm]
  have hk : 7 - e = (6 - e) + 1 := by omega
  have hk2 : 7 - (e + 1) = 6 - e := by omega
  have hk3 : 6 - (6 - e) = e := by omega
  have ok := tb_ok (sv := svN U N) h9
  have ok0 := ok (6 - e) busy
  have ok1 := ok (6 - e + 1) busy
  have ok0' : okq (6 - e + 1) (tb (svN U N) (hcN N) (6 - e) busy) := by unfold okq at *; omega
  refine rX10_firstBaker hG ?_
  rw [e1, em, i128, i128a, nI_clamp (n := 128 * (e + 1) + busy) (by omega), nI_clamp (n := 128 * e + busy) (by omega), hB (e + 1) busy (by omega) (by omega) hb, hB e busy (by omega) (by omega) hb, hk2, hk]
  refine ⟨vp_in_nI (by omega) (by decide), vp_in_nI (by omega) (by decide), ?_⟩
  have hl0 := enc_le (by omega) ok0'
  have hl1 := enc_le (by omega) ok1
  have heq : nI (enc (tb (svN U N) (hcN N) (6 - e) busy)) = nI (enc (tb (svN U N) (hcN N) (6 - e + 1) busy)) ↔ tb (svN U N) (hcN N) (6 - e) busy = tb (svN U N) (hcN N) (6 - e + 1) busy := by
    rw [nI_eq (by omega) (by omega)]
    exact enc_eq (by omega) ok1 ok0'
  rcases fbA_is (sv := svN U N) (hc := hcN N) (k := 6 - e) (busy := busy) with ⟨q1, q2⟩ | ⟨b, q1, q2, q3, q4, q5⟩
  · rw [q1] at hK
    exact ipos (heq.mpr q2) hK
  · rw [q1] at hK
    refine ineg (mt heq.mp q2) ?_
    have loop : ∀ (k j : Nat), j + k = b → jX10_firstBaker_40 d (nI e) (nI busy) M K (nI e) (nI busy) (nI (128 * (e + 1))) (nI (enc (tb (svN U N) (hcN N) (6 - e + 1) busy))) (nI j) := by
      have cell : ∀ j, j < 7 → svN U N e j = true → busy.testBit j = false → (nI (mealN U N e j) + M.1 152 (nI (128 * (e + 1)) + (nI busy ||| ((1 : Int32) <<< (nI j &&& 31)))).toNatClampNeg = nI (enc (tb (svN U N) (hcN N) (6 - e + 1) busy)) ↔ tbC (hcN N) e busy (tb (svN U N) (hcN N) (6 - e)) j = tb (svN U N) (hcN N) (6 - e + 1) busy) ∧ vp_in (nI (128 * (e + 1)) + (nI busy ||| ((1 : Int32) <<< (nI j &&& 31)))) 1024 := by
        intro j hj c1 c2
        obtain ⟨o1, o2⟩ := bit_or busy hb j hj
        have hm : mealN U N e j = 1000 - hcN N e j := by unfold mealN; rw [if_pos c1]
        have okc := tbC_ok (busy := busy) (b := j) (e := e) h9 (ok (6 - e))
        have hlc := enc_le (by omega) okc
        rw [o1, i128a, nI_clamp (n := 128 * (e + 1) + (busy ||| 2 ^ j)) (by omega), hB (e + 1) _ (by omega) (by omega) o2, nI_add, hm, hk2, ← enc_C h9 (ok (6 - e)), nI_eq (by omega) (by omega)]
        exact ⟨enc_eq (by omega) ok1 okc, vp_in_nI (by omega) (by decide)⟩
      intro k
      induction k with
      | zero =>
        intro j hj
        obtain rfl : j = b := by omega
        obtain ⟨p1, p2, p3⟩ := fbP_of q4
        rw [hk3] at p1 p3
        refine lX10_firstBaker_40 hG (ineg (lt7 (by omega)) ?_)
        rw [ix8 e (by omega) j (by omega), nI_clamp (n := 8 * e + j) (by omega), hW e j he (by omega)]
        refine ⟨vp_in_nI (by omega) (by decide), ?_⟩
        have hm : mealN U N e j = 1000 - hcN N e j := by unfold mealN; rw [if_pos p1]
        have h99 := h9 e j
        obtain ⟨c1, c2⟩ := cell j q3 p1 p2
        refine ineg (by rw [hm]; exact nI_nle (by omega) (by omega)) (ipos ((bit_at _ hb _ q3).mpr p2) ⟨c2, ipos (c1.mpr p3) hK⟩)
      | succ k ih =>
        intro j hj
        have hj7 : j < 7 := by omega
        have hf := q5 j (by omega)
        refine lX10_firstBaker_40 hG (ineg (lt7 (by omega)) ?_)
        rw [ix8 e (by omega) j (by omega), nI_clamp (n := 8 * e + j) (by omega), hW e j he (by omega), nI_1]
        refine ⟨vp_in_nI (by omega) (by decide), ?_⟩
        by_cases c1 : svN U N e j = true
        · have hm : mealN U N e j = 1000 - hcN N e j := by unfold mealN; rw [if_pos c1]
          have h99 := h9 e j
          refine ineg (by rw [hm]; exact nI_nle (by omega) (by omega)) ?_
          by_cases c2 : ((nI busy >>> (nI j &&& 31)) &&& 1) = 0
          · have c2' := (bit_at _ hb _ hj7).mp c2
            obtain ⟨d1, d2⟩ := cell j hj7 c1 c2'
            refine ipos c2 ⟨d2, ineg (fun z => ?_) (ih (j + 1) (by omega))⟩
            have z' := d1.mp z
            unfold fbP at hf
            rw [hk3, c1, c2', z'] at hf
            simp at hf
          · exact ineg c2 (ih (j + 1) (by omega))
        · have hm : mealN U N e j = 0 := by unfold mealN; rw [if_neg c1]
          exact ipos (by rw [hm]; decide) (ih (j + 1) (by omega))
    exact loop b 0 (by omega)
theorem fbA_lt {sv : Nat → Nat → Bool} {hc : Nat → Nat → Nat} {k busy b : Nat} (h : fbA sv hc k busy = some b) : b < 7 ∧ sv (6 - k) b = true ∧ tb sv hc (k + 1) busy = tbC hc (6 - k) busy (tb sv hc k) b := by
  rcases fbA_is (sv := sv) (hc := hc) (k := k) (busy := busy) with ⟨q1, -⟩ | ⟨b', q1, q2, q3, q4, -⟩
  · rw [q1] at h; cases h
  · rw [q1] at h
    cases h
    obtain ⟨p1, p2, p3⟩ := fbP_of q4
    exact ⟨q3, p1, p3.symm⟩
theorem fbA_none {sv : Nat → Nat → Bool} {hc : Nat → Nat → Nat} {k busy : Nat} (h : fbA sv hc k busy = none) : tb sv hc (k + 1) busy = tb sv hc k busy := by
  rcases fbA_is (sv := sv) (hc := hc) (k := k) (busy := busy) with ⟨-, q2⟩ | ⟨b', q1, -⟩
  · exact q2.symm
  · rw [q1] at h; cases h
def wR (c j : Nat) : Prop := c = 150 ∨ (c = 149 ∧ (j = 0 ∨ j = 1))
/-- what a table's row leaves -/
def tabR (U : dU) (N : dN) (m : mm_M) : Prop := m.1 149 0 = nI (tb (svN U N) (hcN N) 7 0).1 ∧ m.1 149 1 = nI (tb (svN U N) (hcN N) 7 0).2 ∧ ∀ e, e < 7 → m.1 150 e = pickR (rowA (svN U N) (hcN N) e)
theorem c_readRow {d a : Nat} {U : dU} {N : dN} {M : mm_M} {K : mm_M → Prop} (ha : a ∈ mm_Sts) (hG : mm_G M.2.2) (hN : cN a N M) (vn : vN U N) (hB : cBest (svN U N) (hcN N) 0 M) (hW : ∀ p q, p < 7 → q < 7 → M.1 153 (8 * p + q) = nI (mealN U N p q)) (hK : ∀ m, offM wR M m → tabR U N m → K m) : mm_CV mX10_readRow (d + 1) [.ref 149, .ref a] M K := by
  have hs := St_at ha
  have h9 := hcN_9 vn
  refine rX10_readRow ha hG ?_
  have loop : ∀ (k i : Nat) (S : Nat × (Nat → Option Nat)) (n h : Nat) (m : mm_M), i + k = 7 → S.1 < 128 → offM wR M m → m.1 149 0 = nI n → m.1 149 1 = nI h → n + (tb (svN U N) (hcN N) (7 - i) S.1).1 = (tb (svN U N) (hcN N) 7 0).1 → h + (tb (svN U N) (hcN N) (7 - i) S.1).2 = (tb (svN U N) (hcN N) 7 0).2 → (∀ e, e < i → m.1 150 e = pickR (S.2 e)) → (List.range' i k).foldl (rowS (svN U N) (hcN N)) S = (List.range' 0 7).foldl (rowS (svN U N) (hcN N)) (0, fun _ => none) → jX10_readRow_14 d a m K (nI S.1) (nI i) := by
    intro k
    induction k with
    | zero =>
      intro i S n h m hi hS ho h0 h1 hn hh h150 hf
      obtain rfl : i = 7 := by omega
      refine lX10_readRow_14 ha (by rw [ho.2.2]; exact hG) (ipos (by decide) (hK m ho ⟨?_, ?_, fun e he => ?_⟩))
      · rw [h0, ← hn]; rfl
      · rw [h1, ← hh]; rfl
      · rw [h150 e he]; unfold rowA; rw [← hf]; rfl
    | succ k ih =>
      intro i S n h m hi hS ho h0 h1 hn hh h150 hf
      have hi7 : i < 7 := by omega
      have hGm : mm_G m.2.2 := by rw [ho.2.2]; exact hG
      rw [List.range'_succ, List.foldl_cons] at hf
      refine lX10_readRow_14 ha hGm (ineg (lt7 hi7) ?_)
      refine c_firstBaker hGm vn hi7 hS (fun e b q1 q2 q3 => by rw [ho.1 _ _ (by unfold wR; omega)]; exact hB e b q1 q2 q3) (fun p q hp hq => by rw [ho.1 _ _ (by unfold wR; omega)]; exact hW p q hp hq) ?_
      rw [nI_clamp (n := i) (by omega), nI_1]
      refine ⟨vp_in_nI hi7 (by decide), ?_⟩
      have hk : 7 - i = (6 - i) + 1 := by omega
      have hk2 : 7 - (i + 1) = 6 - i := by omega
      have hk3 : 6 - (6 - i) = i := by omega
      rw [hk] at hn hh
      cases hp : fbA (svN U N) (hcN N) (6 - i) S.1 with
      | none =>
        refine ipos (by decide) ?_
        have hR : rowS (svN U N) (hcN N) S i = (S.1, setF S.2 i none) := by unfold rowS; rw [hp]
        rw [hR] at hf
        have ht := fbA_none hp
        rw [ht] at hn hh
        refine ih (i + 1) (S.1, setF S.2 i none) n h _ (by omega) hS (offM_tr ho (offM_uI (Or.inl rfl))) (by rw [uI_c (by decide)]; exact h0) (by rw [uI_c (by decide)]; exact h1) (by rw [hk2]; exact hn) (by rw [hk2]; exact hh) (fun e he => ?_) hf
        show _ = pickR (setF S.2 i none e)
        unfold setF
        by_cases z : e = i
        · subst z; rw [uI_at, if_pos rfl]
        · rw [uI_j z, if_neg z]; exact h150 e (by omega)
      | some b =>
        obtain ⟨b1, b2, b3⟩ := fbA_lt hp
        rw [hk3] at b2 b3
        have hR : rowS (svN U N) (hcN N) S i = (S.1 ||| 2 ^ b, setF S.2 i (some b)) := by unfold rowS; rw [hp]
        rw [hR] at hf
        show if nI b < 0 then _ else vp_in ((8 * nI i) + nI b) 64 ∧ _
        refine ineg (nI_pos (by omega)) ?_
        rw [show pickR (some b) = nI b from rfl, ix8 i (by omega) b (by omega), nI_clamp (n := 8 * i + b) (by omega), (bit_or S.1 hS b b1).1]
        refine ⟨vp_in_nI (by omega) (by decide), ?_⟩
        have o1 : offM wR m (mm_uI (mm_uI m 150 i (nI b)) 149 0 (((mm_uI m 150 i (nI b)).1 149 0) + 1)) := offM_tr (offM_uI (Or.inl rfl)) (offM_uI (by unfold wR; omega))
        have g0 : (mm_uI (mm_uI m 150 i (nI b)) 149 0 (((mm_uI m 150 i (nI b)).1 149 0) + 1)).1 149 0 = nI (n + 1) := by rw [uI_at, uI_c (by decide), h0, nI_1]
        have g1 : (mm_uI (mm_uI m 150 i (nI b)) 149 0 (((mm_uI m 150 i (nI b)).1 149 0) + 1)).1 149 1 = nI h := by rw [uI_j (by decide), uI_c (by decide), h1]
        have g150 : ∀ e, (mm_uI (mm_uI m 150 i (nI b)) 149 0 (((mm_uI m 150 i (nI b)).1 149 0) + 1)).1 150 e = if e = i then nI b else m.1 150 e := fun e => by
          rw [uI_c (by decide)]
          by_cases z : e = i
          · subst z; rw [uI_at, if_pos rfl]
          · rw [uI_j z, if_neg z]
        generalize mm_uI (mm_uI m 150 i (nI b)) 149 0 (((mm_uI m 150 i (nI b)).1 149 0) + 1) = m1 at o1 g0 g1 g150 ⊢
        have ho1 := offM_tr ho o1
        rw [g1, ho1.1 (a + 3) _ (by unfold wR; omega), hN.2.2.2.2 i b hi7 b1, hcN_nI vn i b, nI_add]
        rw [b3] at hn hh
        have hn : n + (1 + (tb (svN U N) (hcN N) (6 - i) (S.1 ||| 2 ^ b)).1) = (tb (svN U N) (hcN N) 7 0).1 := hn
        have hh : h + (hcN N i b + (tb (svN U N) (hcN N) (6 - i) (S.1 ||| 2 ^ b)).2) = (tb (svN U N) (hcN N) 7 0).2 := hh
        refine ih (i + 1) (S.1 ||| 2 ^ b, setF S.2 i (some b)) (n + 1) (h + hcN N i b) _ (by omega) (or_lt7 hS b1) (offM_tr ho1 (offM_uI (by unfold wR; omega))) (by rw [uI_j (by decide)]; exact g0) (uI_at _ _ _ _) (by rw [hk2]; show n + 1 + (tb (svN U N) (hcN N) (6 - i) (S.1 ||| 2 ^ b)).1 = _; omega) (by rw [hk2]; show h + hcN N i b + (tb (svN U N) (hcN N) (6 - i) (S.1 ||| 2 ^ b)).2 = _; omega) (fun e he => ?_) hf
        rw [uI_c (by decide), g150]
        show _ = pickR (setF S.2 i (some b) e)
        unfold setF
        by_cases z : e = i
        · rw [if_pos z, if_pos z]; rfl
        · rw [if_neg z, if_neg z]; exact h150 e (by omega)
  refine loop 7 0 (0, fun _ => none) 0 0 _ (by omega) (by decide) (offM_tr (offM_uI (by unfold wR; omega)) (offM_uI (by unfold wR; omega))) (by rw [uI_j (by decide), uI_at]; rfl) (by rw [uI_at]; rfl) (by simp) (by simp) (fun e he => by omega) rfl
def wSe (c j : Nat) : Prop := c = 150 ∨ c = 152 ∨ c = 153 ∨ (c = 149 ∧ (j = 0 ∨ j = 1 ∨ j = 5))
theorem c_seat_in {d a r e : Nat} {x3 : Int32} {U : dU} {N : dN} {M : mm_M} {K : mm_M → Prop} (hr : r ∈ mm_Rls) (ha : a ∈ mm_Sts) (hG : mm_G M.2.2) (vn : vN U N) (he : e < 7) (hW : ∀ p q, p < 7 → q < 7 → M.1 153 (8 * p + q) = nI (mealN U N p q)) : ∀ (k b : Nat) (m : mm_M), b + k = 128 → offM (fun c _ => c = 152) M m → cBest (svN U N) (hcN N) (e + 1) m → (∀ z, z < b → m.1 152 (128 * e + z) = nI (enc (tb (svN U N) (hcN N) (7 - e) z))) → (∀ m', offM (fun c _ => c = 152) M m' → cBest (svN U N) (hcN N) e m' → jX10_seat_32 (d + 1) r a x3 m' K (nI e + (-1))) → jX10_seat_40 (d + 1) r a x3 m K (nI e) (nI b) := by
  intro k
  induction k with
  | zero =>
    intro b m hb ho hB h hK
    obtain rfl : b = 128 := by omega
    refine lX10_seat_40 hr ha (by rw [ho.2.2]; exact hG) (ipos (by decide) (hK m ho (fun e' z q1 q2 q3 => ?_)))
    by_cases c : e' = e
    · subst c; exact h z q3
    · exact hB e' z (by omega) q2 q3
  | succ k ih =>
    intro b m hb ho hB h hK
    have hGm : mm_G m.2.2 := by rw [ho.2.2]; exact hG
    refine lX10_seat_40 hr ha hGm (ineg (nI_ge (b := 128) (by omega) (by decide)) ?_)
    refine c_bestFrom hGm vn he (by omega) hB (fun p q hp hq => by rw [ho.1 _ _ (by omega)]; exact hW p q hp hq) ?_
    rw [i128, nI_clamp (by omega), nI_1]
    refine ⟨vp_in_nI (by omega) (by decide), ?_⟩
    refine ih (b + 1) _ (by omega) (offM_tr ho (offM_uI rfl)) (fun e' z q1 q2 q3 => by rw [uI_j (by omega)]; exact hB e' z q1 q2 q3) (fun z hz => ?_) hK
    by_cases c : z = b
    · subst c; exact uI_at _ _ _ _
    · rw [uI_j (by omega)]; exact h z (by omega)
theorem c_seat_out {d a r : Nat} {x3 : Int32} {U : dU} {N : dN} {M : mm_M} {K : mm_M → Prop} (hr : r ∈ mm_Rls) (ha : a ∈ mm_Sts) (hG : mm_G M.2.2) (vn : vN U N) (hW : ∀ p q, p < 7 → q < 7 → M.1 153 (8 * p + q) = nI (mealN U N p q)) (hK : ∀ m', offM (fun c _ => c = 152) M m' → cBest (svN U N) (hcN N) 0 m' → mm_CV mX10_readRow (d + 1) [.ref 149, .ref a] m' (fun m => K m)) : ∀ (i : Nat) (m : mm_M), i ≤ 7 → offM (fun c _ => c = 152) M m → cBest (svN U N) (hcN N) i m → jX10_seat_32 (d + 1) r a x3 m K (nI i + (-1)) := by
  intro i
  induction i with
  | zero =>
    intro m hi ho hB
    exact lX10_seat_32 hr ha (by rw [ho.2.2]; exact hG) (ipos (by decide) (hK m ho hB))
  | succ i ih =>
    intro m hi ho hB
    rw [pk_m1]
    refine lX10_seat_32 hr ha (by rw [ho.2.2]; exact hG) (ineg (nI_pos (by omega)) ?_)
    exact c_seat_in hr ha hG vn (by omega) hW 128 0 m (by omega) ho hB (fun z hz => by omega) (fun m' o' B' => ih m' (by omega) o' B')
/-- the table is sought, unless it is at hand -/
theorem c_seat {d a r : Nat} {x3 : Int32} {U : dU} {N : dN} {M : mm_M} {K : mm_M → Prop} (hr : r ∈ mm_Rls) (ha : a ∈ mm_Sts) (hG : mm_G M.2.2) (hN : cN a N M) (hl : M.1 r 1 = U.1) (vn : vN U N) (hc : M.1 149 5 = x3 → tabR U N M) (hK : ∀ m, offM wSe M m → m.1 149 5 = x3 → tabR U N m → K m) : mm_CV mX10_seat (d + 3) [.ref 149, .ref r, .ref a, .int x3] M K := by
  have hs := St_at ha
  have hr' := Rl_at hr
  refine rX10_seat hr ha hG ?_
  by_cases c : M.1 149 5 = x3
  · exact ipos c (hK M offM_rf c (hc c))
  · refine ineg c ?_
    have o1 : offM (fun c j => c = 149 ∧ j = 5) M (mm_uI M 149 5 x3) := offM_uI ⟨rfl, rfl⟩
    have g5 : (mm_uI M 149 5 x3).1 149 5 = x3 := uI_at _ _ _ _
    generalize mm_uI M 149 5 x3 = m1 at o1 g5 ⊢
    have hG1 : mm_G m1.2.2 := by rw [o1.2.2]; exact hG
    refine c_weighMeals (U := U) hr ha hG1 (cN_off hN o1 (fun c j q => by omega)) (by rw [o1.1 _ _ (by omega)]; exact hl) vn (fun m2 o2 h2 => ?_)
    have hG2 : mm_G m2.2.2 := by rw [o2.2.2]; exact hG1
    refine c_fill (r0 := 152) (n0 := 1024) (by decide +kernel) (by decide) hG2 (fun m3 o3 h3 => ?_)
    have hG3 : mm_G m3.2.2 := by rw [o3.2.2]; exact hG2
    have e6 : (6 : Int32) = nI 7 + (-1) := by decide
    rw [e6]
    refine c_seat_out (M := m3) (U := U) hr ha hG3 vn (fun p q hp hq => by rw [o3.1 _ _ (by omega)]; exact h2 p q hp hq) (fun m4 o4 B4 => ?_) 7 m3 (by omega) offM_rf (fun e z q1 q2 q3 => ?_)
    · have oA : offM wSe M m4 := offM_tr (offM_tr (offM_tr (offM_mono o1 (fun c j q => by unfold wSe; omega)) (offM_mono o2 (fun c j q => by unfold wSe; omega))) (offM_mono o3 (fun c j q => by unfold wSe; omega))) (offM_mono o4 (fun c j q => by unfold wSe; omega))
      refine c_readRow ha (by rw [oA.2.2]; exact hG) (cN_off hN oA (fun c j q => by unfold wSe at q; omega)) vn B4 (fun p q hp hq => by rw [o4.1 _ _ (by omega), o3.1 _ _ (by omega)]; exact h2 p q hp hq) (fun m5 o5 t5 => hK m5 (offM_tr oA (offM_mono o5 (fun c j q => by unfold wR at q; unfold wSe; omega))) ?_ t5)
      rw [o5.1 _ _ (by unfold wR; omega), o4.1 _ _ (by omega), o3.1 _ _ (by omega), o2.1 _ _ (by omega)]
      exact g5
    · obtain rfl : e = 7 := by omega
      rw [h3 _ (by omega)]; rfl
