/-! ===== the class reads numbers and parts ===== -/
theorem vlF_b {T : dT} {q : Nat} : ∀ k, k ≤ 4 → (∀ j, j < k → isDg (T.1 (q + j)) = true) → 0 ≤ (vlF T q k).toInt ∧ (vlF T q k).toInt < 10 ^ k
  | 0, _, _ => by show 0 ≤ (0 : Int32).toInt ∧ (0 : Int32).toInt < 10 ^ 0; decide
  | k + 1, hk, h => by
    obtain ⟨i1, i2⟩ := vlF_b (T := T) (q := q) k (by omega) (fun j hj => h j (by omega))
    have hd := h k (by omega)
    unfold isDg at hd
    have hd := of_decide_eq_true hd
    have hp : (10 : Int) ^ k ≤ 1000 := by
      match k, hk with
      | 0, _ => decide
      | 1, _ => decide
      | 2, _ => decide
      | 3, _ => decide
    have hp1 : (10 : Int) ^ (k + 1) = 10 * 10 ^ k := by rw [Int.pow_succ, Int.mul_comm]
    show 0 ≤ (10 * vlF T q k + T.1 (q + k) - 48).toInt ∧ (10 * vlF T q k + T.1 (q + k) - 48).toInt < 10 ^ (k + 1)
    have e10 : (10 : Int32).toInt = 10 := rfl
    have e48 : (48 : Int32).toInt = 48 := rfl
    have a1 : (10 * vlF T q k).toInt = 10 * (vlF T q k).toInt := by
      rw [Int32.toInt_mul, e10, bm32 (by omega) (by omega)]
    have a2 : (10 * vlF T q k + T.1 (q + k)).toInt = 10 * (vlF T q k).toInt + (T.1 (q + k)).toInt := by
      rw [Int32.toInt_add, a1, bm32 (by omega) (by omega)]
    have a3 : (10 * vlF T q k + T.1 (q + k) - 48).toInt = 10 * (vlF T q k).toInt + (T.1 (q + k)).toInt - 48 := by
      rw [Int32.toInt_sub, a2, e48, bm32 (by omega) (by omega)]
    rw [a3, hp1]
    omega
theorem vlu_b {T : dT} {q : Nat} (hq : q ≤ T.2) : 0 ≤ (vlu T q).toInt ∧ (vlu T q).toInt ≤ 9999 := by
  obtain ⟨r1, r2, r3, r4⟩ := rn_p (T := T) (P := isDg) hq
  unfold vlu
  have := vlF_b (T := T) (q := q) (min 4 (rn T isDg q - q)) (by omega) (fun j hj => r4 (q + j) (by omega) (by omega))
  have hp : (10 : Int) ^ (min 4 (rn T isDg q - q)) ≤ 10000 := by
    have h4 : min 4 (rn T isDg q - q) ≤ 4 := by omega
    generalize min 4 (rn T isDg q - q) = z at h4
    match z, h4 with
    | 0, _ => decide
    | 1, _ => decide
    | 2, _ => decide
    | 3, _ => decide
    | 4, _ => decide
  omega
/-- the fault of a number within bounds -/
def nuX (T : dT) (q lo hi : Nat) : Option (Nat × Nat) := if tkk T q = 2 then (if ten T q - q ≤ 4 then (if lo ≤ (vlu T q).toInt.toNat ∧ (vlu T q).toInt.toNat ≤ hi then none else some (2, q)) else some (1, q + 4)) else some (1, q)
theorem wnF_c {T : dT} {q : Nat} : ∀ (ws : List (List Int32)) (k : Nat), wnF T q ws k = -1 ∨ ∃ j, j < k + ws.length ∧ wnF T q ws k = nI j
  | [], k => Or.inl rfl
  | w :: ws, k => by
    show (if mtc T q w then nI k else wnF T q ws (k + 1)) = -1 ∨ _
    by_cases c : mtc T q w = true
    · exact Or.inr ⟨k, by show k < k + (ws.length + 1); omega, by show (if mtc T q w then nI k else wnF T q ws (k + 1)) = _; rw [if_pos c]⟩
    · rw [if_neg c]
      rcases wnF_c (T := T) (q := q) ws (k + 1) with h | ⟨j, h1, h2⟩
      · exact Or.inl h
      · exact Or.inr ⟨j, by show j < k + (ws.length + 1); omega, by show (if mtc T q w then nI k else wnF T q ws (k + 1)) = _; rw [if_neg c]; exact h2⟩
theorem wdn_c (T : dT) (q : Nat) : wdn T q = -1 ∨ (tkk T q = 1 ∧ ∃ j, j < 30 ∧ wdn T q = nI j) := by
  unfold wdn
  by_cases c : tkk T q = 1
  · rw [if_pos c]
    rcases wnF_c (T := T) (q := q) wds 0 with h | ⟨j, h1, h2⟩
    · exact Or.inl h
    · exact Or.inr ⟨c, j, by have e : wds.length = 30 := rfl
                             omega, h2⟩
  · rw [if_neg c]; exact Or.inl rfl
section
variable {T : dT} {tk a r s q o d : Nat} {C : List Nat} {M : mm_M}
theorem c_takeNum {K : Int32 → mm_M → Prop} {lo hi : Nat} (h0 : cX0 a r) (hG : mm_G M.2.2) (hs : cPs T tk a r s q C o M) (hq : q ≤ T.2) (hlo : lo ≤ 9999) (hhi : hi ≤ 9999) (h1 : nuX T q lo hi = none → ∀ m, offM (wPr a r) M m → cPs T tk a r s (nxt T q) C o m → K (vlu T q) m) (h2 : ∀ k p, nuX T q lo hi = some (k, p) → ∀ m, offM (wPr a r) M m → cXs a r k p m → K 0 m) : mm_CI mX6_takeNumber (d + 6) [.ref a, .int (nI lo), .int (nI hi)] M K := by
  obtain ⟨t1, t2, t3, t4, t5, t6⟩ := hs.2.1
  have hn := hs.1.2.1
  obtain ⟨b1, b2, b3⟩ := ten_b hq
  have bad : ∀ (k p : Nat), 1 ≤ k ∧ k ≤ 5 → p ≤ 1600 → nuX T q lo hi = some (k, p) → mm_CV mX6_refuse (d + 5) [.ref a, .int (nI k), .int (nI p)] M (fun m14 => if (m14.1 a 8) = 0 then (mm_CV mX6_next (d + 5) [.ref a] m14 (fun m87 => K (m14.1 a 7) m87)) else (K 0 m14)) := fun k p hk hp e =>
    c_refuseP h0 hG hs hk hp (fun m o' x => ineg (X_n0 x) (h2 k p e m o' x))
  refine rX6_takeNumber h0.1 hG ?_
  rw [t2, t4, t1, show nI (ten T q) - nI q = nI (ten T q - q) from pk_sub b1]
  by_cases c : tkk T q = 2
  · have hv := vlu_b hq
    have ev : vlu T q = nI (vlu T q).toInt.toNat := i32_nI hv.1
    refine ipos c ?_
    have en : nuX T q lo hi = if ten T q - q ≤ 4 then (if lo ≤ (vlu T q).toInt.toNat ∧ (vlu T q).toInt.toNat ≤ hi then none else some (2, q)) else some (1, q + 4) := by unfold nuX; rw [if_pos c]
    rw [en] at h1 h2 bad
    rw [t6 c, ev]
    have bad63 : nuX T q lo hi = some (2, q) → jX6_takeNumber_63 (d + 5) a (nI lo) (nI hi) M K := fun e => by
      refine lX6_takeNumber_63 h0.1 hG ?_
      rw [t1]
      rw [en] at e
      exact bad 2 q (by omega) (by omega) e
    by_cases c4 : ten T q - q ≤ 4
    · rw [if_pos c4] at h1 h2 bad en
      refine ipos (nI_le (b := 4) c4 (by decide)) ?_
      by_cases c5 : lo ≤ (vlu T q).toInt.toNat
      · refine ineg (nI_nlt c5 (by omega)) ?_
        by_cases c6 : (vlu T q).toInt.toNat ≤ hi
        · rw [if_pos ⟨c5, c6⟩] at h1
          refine ipos (nI_le c6 (by omega)) (ipos hs.2.2.1 (c_nextP h0 hG hs hq (fun m o' s' => ?_)))
          rw [← ev]
          exact h1 rfl m o' s'
        · exact ineg (nI_ge (by omega) (by omega)) (bad63 (by rw [en, if_neg (fun z => c6 z.2)]))
      · exact ipos (nI_lt (by omega) (by omega)) (bad63 (by rw [en, if_neg (fun z => c5 z.1)]))
    · rw [if_neg c4] at h1 h2 bad
      refine ineg (nI_ge (b := ten T q - q) (a := 4) (by omega) (by omega)) ?_
      show mm_CV mX6_refuse (d + 5) [.ref a, .int 1, .int (nI q + nI 4)] M _
      rw [nI_add]
      exact bad 1 (q + 4) (by omega) (by omega) rfl
  · refine ineg c (bad 1 q (by omega) (by omega) ?_)
    unfold nuX; rw [if_neg c]
theorem c_takeNumX {K : Int32 → mm_M → Prop} {k p : Nat} {x y : Int32} (h0 : cX0 a r) (hG : mm_G M.2.2) (hs : cXs a r k p M) (hK : K 0 M) : mm_CI mX6_takeNumber (d + 1) [.ref a, .int x, .int y] M K := by
  have h63 : jX6_takeNumber_63 d a x y M K := lX6_takeNumber_63 h0.1 hG (c_refuseX h0 hG hs (ineg (X_n0 hs) hK))
  exact rX6_takeNumber h0.1 hG (ite_go (fun _ => ite_go (fun _ => ite_go (fun _ => h63) (fun _ => ite_go (fun _ => ineg (X_n0 hs) hK) (fun _ => h63))) (fun _ => c_refuseX h0 hG hs (ineg (X_n0 hs) hK))) (fun _ => c_refuseX h0 hG hs (ineg (X_n0 hs) hK)))
end
/-! the machine at brackets -/
theorem br_app {ps S : List Nat} {b : Nat} (h : ∀ x ∈ ps, isAM x = true) (hb : 20 ≤ b ∧ b ≤ 24) : brk (ps ++ b :: S) = b :: S ∧ ops (ps ++ b :: S) = ps := by
  have := tw_app (P := fun v => !isBr v) ps (b :: S) (fun x hx => by
    have := h x hx
    unfold isAM at this
    have := of_decide_eq_true this
    show (!isBr x) = true
    unfold isBr
    rw [decide_eq_false (by omega)]; rfl) (fun v hv => by
    obtain rfl : b = v := Option.some.inj hv
    show (!isBr b) = false
    unfold isBr
    rw [decide_eq_true hb]; rfl)
  exact ⟨this.2, this.1⟩
def noOp (T : dT) (q : Nat) : Prop := isS T q 42 = false ∧ isS T q 47 = false ∧ isS T q 43 = false ∧ isS T q 45 = false
theorem smG_close {T : dT} {tk q o b : Nat} {C ps S : List Nat} (h : isS T q 41 = true) (hp : ∀ x ∈ ps, isAM x = true) (hb : b = 20 ∨ b = 23 ∨ b = 24) : stp T tk (2, q, C, ps ++ b :: S, o + 1) = (1, nxt T q, C ++ ps ++ (if b = 20 then [] else if b = 23 then [5] else [6]), S, o) := by
  show smG T q C (ps ++ b :: S) (o + 1) = _
  obtain ⟨w1, w2⟩ := br_app (S := S) hp (show 20 ≤ b ∧ b ≤ 24 by omega)
  unfold smG
  rw [w1, w2]
  have hh : (b :: S).head? = some b := rfl
  rw [hh, if_pos ⟨h, by rcases hb with rfl | rfl | rfl <;> simp⟩]
  rcases hb with rfl | rfl | rfl <;> rfl
theorem smG_bad {T : dT} {tk q o b : Nat} {C ps S : List Nat} (hp : ∀ x ∈ ps, isAM x = true) (hb : 20 ≤ b ∧ b ≤ 24) (hn : noOp T q) (h : (b = 21 ∨ b = 22) ∧ isS T q 44 = false ∨ (b = 20 ∨ b = 23 ∨ b = 24) ∧ isS T q 41 = false) : stp T tk (2, q, C, ps ++ b :: S, o) = xC 1 q := by
  show smG T q C (ps ++ b :: S) o = _
  obtain ⟨w1, w2⟩ := br_app (S := S) hp hb
  obtain ⟨n1, n2, n3, n4⟩ := hn
  unfold smG
  rw [w1, w2]
  have hh : (b :: S).head? = some b := rfl
  rw [hh, if_neg (fun z => by
    rcases h with h | h
    · rcases z.2 with y | y | y
      · have := Option.some.inj y; omega
      · have := Option.some.inj y; omega
      · have := Option.some.inj y; omega
    · rw [h.2] at z; exact absurd z.1 (by decide)), if_neg (fun z => by rw [n1, n2] at z; rcases z with z | z <;> exact absurd z (by decide)), if_neg (fun z => by rw [n3, n4] at z; rcases z with z | z <;> exact absurd z (by decide))]
  show (if b = 21 ∨ b = 22 then (if isS T q 44 then _ else xC 1 q) else xC 1 q) = xC 1 q
  rcases h with h | h
  · rw [if_pos h.1, if_neg (by rw [h.2]; decide)]
  · rw [if_neg (by omega)]
theorem smG_comma {T : dT} {tk q o b : Nat} {C ps S : List Nat} (h : isS T q 44 = true) (hp : ∀ x ∈ ps, isAM x = true) (hb : b = 21 ∨ b = 22) : stp T tk (2, q, C, ps ++ b :: S, o) = (0, nxt T q, C ++ ps, (b + 2) :: S, o) := by
  show smG T q C (ps ++ b :: S) o = _
  obtain ⟨w1, w2⟩ := br_app (S := S) hp (show 20 ≤ b ∧ b ≤ 24 by omega)
  have n0 := isS_ne (c' := 41) h (by decide)
  have n1 := isS_ne (c' := 42) h (by decide)
  have n2 := isS_ne (c' := 47) h (by decide)
  have n3 := isS_ne (c' := 43) h (by decide)
  have n4 := isS_ne (c' := 45) h (by decide)
  unfold smG
  rw [w1, w2]
  rw [if_neg (fun z => by rw [n0] at z; exact absurd z.1 (by decide)), if_neg (fun z => by rw [n1, n2] at z; rcases z with z | z <;> exact absurd z (by decide)), if_neg (fun z => by rw [n3, n4] at z; rcases z with z | z <;> exact absurd z (by decide))]
  show (if b = 21 ∨ b = 22 then (if isS T q 44 then _ else xC 1 q) else xC 1 q) = _
  rw [if_pos hb, if_pos h]
theorem smG_end {T : dT} {tk q o : Nat} {C ps : List Nat} (hp : ∀ x ∈ ps, isAM x = true) (hn : noOp T q) : stp T tk (2, q, C, ps, o) = (3, q, C ++ ps, [], o) := by
  show smG T q C ps o = _
  have w := tw_app (P := fun v => !isBr v) ps [] (fun x hx => by
    have := hp x hx
    unfold isAM at this
    have := of_decide_eq_true this
    show (!isBr x) = true
    unfold isBr
    rw [decide_eq_false (by omega)]; rfl) (fun v hv => by cases hv)
  rw [List.append_nil] at w
  have w1 : brk ps = [] := w.2
  obtain ⟨n1, n2, n3, n4⟩ := hn
  unfold smG
  rw [w1]
  rw [if_neg (fun z => by
    rcases z.2 with y | y | y
    · cases y
    · cases y
    · cases y), if_neg (fun z => by rw [n1, n2] at z; rcases z with z | z <;> exact absurd z (by decide)), if_neg (fun z => by rw [n3, n4] at z; rcases z with z | z <;> exact absurd z (by decide))]
theorem msk_ok0 : ∀ x, x < 120 → (((msk (x / 30) >>> (nI (x % 30) &&& 31)) &&& 1 = 0) ↔ prt (x / 30) (nI (x % 30)) = none) := by decide +kernel
theorem msk_ok {tk w : Nat} (ht : tk < 4) (hw : w < 30) : ((msk tk >>> (nI w &&& 31)) &&& 1 = 0) ↔ prt tk (nI w) = none := by
  have := msk_ok0 (30 * tk + w) (by omega)
  rw [show (30 * tk + w) / 30 = tk by omega, show (30 * tk + w) % 30 = w by omega] at this
  exact this
