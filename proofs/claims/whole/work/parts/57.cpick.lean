/-! ===== pickBaker ===== -/
theorem ipos {c A B : Prop} [Decidable c] (hc : c) (h : A) : if c then A else B := by rw [if_pos hc]; exact h
theorem ineg {c A B : Prop} [Decidable c] (hc : ¬ c) (h : B) : if c then A else B := by rw [if_neg hc]; exact h
def pop (n : Nat) : Nat := ((List.range' 0 10).filter n.testBit).length
set_option maxRecDepth 100000 in
theorem c_bitCount {d n : Nat} {M : mm_M} {K : Int32 → mm_M → Prop} (hG : mm_G M.2.2) (hn : n < 1024) (hK : K (nI (pop n)) M) : mm_CI mJ6_bitCount_0f7a4 d [.int (nI n)] M K := by
  refine rJ6_bitCount_0f7a4 hG ?_
  refine (congrArg (fun z => K z M) (?_ : _ = nI (pop n))).mpr hK
  clear hK hG K M
  revert n
  decide +kernel
def scan (f : Nat → Bool) (acc : Nat × Int32) (b : Nat) : Nat × Int32 := if f b then (acc.1 ||| 2 ^ b, nI b) else acc
def pickR (o : Option Nat) : Int32 := match o with
  | none => -1
  | some b => nI b
theorem scan_bit (f : Nat → Bool) : ∀ (k i : Nat) (acc : Nat × Int32) (j : Nat), ((List.range' i k).foldl (scan f) acc).1.testBit j = (acc.1.testBit j || (f j && decide (i ≤ j ∧ j < i + k)))
  | 0, i, acc, j => by simp; omega
  | k + 1, i, acc, j => by
    rw [List.range'_succ, List.foldl_cons, scan_bit f k (i + 1)]
    unfold scan
    by_cases h : f i = true
    · rw [if_pos h, Nat.testBit_or, Nat.testBit_two_pow]
      by_cases e : i = j
      · subst e; simp [h]
      · have : decide (i + 1 ≤ j ∧ j < i + 1 + k) = decide (i ≤ j ∧ j < i + (k + 1)) := by rw [decide_eq_decide]; omega
        simp [e, this]
    · rw [if_neg h]
      by_cases e : i = j
      · subst e; simp [h]
      · have : decide (i + 1 ≤ j ∧ j < i + 1 + k) = decide (i ≤ j ∧ j < i + (k + 1)) := by rw [decide_eq_decide]; omega
        rw [this]
theorem scan_lt (f : Nat → Bool) : ∀ (k i : Nat) (acc : Nat × Int32), i + k ≤ 7 → acc.1 < 128 → ((List.range' i k).foldl (scan f) acc).1 < 128
  | 0, i, acc, _, h => h
  | k + 1, i, acc, hk, h => by
    rw [List.range'_succ, List.foldl_cons]
    refine scan_lt f k (i + 1) _ (by omega) ?_
    unfold scan
    by_cases c : f i = true
    · rw [if_pos c]; exact or_lt7 h (by omega)
    · rw [if_neg c]; exact h
set_option maxRecDepth 100000 in
theorem scan7 (f : Nat → Bool) (w : Nat → Int) : pop ((List.range' 0 7).foldl (scan f) (0, -1)).1 < 2 → ((List.range' 0 7).foldl (scan f) (0, -1)).2 = pickR (((List.range' 0 7).foldl (pickS f w) none).map (·.1)) := by
  have e : List.range' 0 7 = [0, 1, 2, 3, 4, 5, 6] := rfl
  rw [e]
  simp only [List.foldl, scan, pickS]
  generalize f 0 = a0
  generalize f 1 = a1
  generalize f 2 = a2
  generalize f 3 = a3
  generalize f 4 = a4
  generalize f 5 = a5
  generalize f 6 = a6
  cases a0 <;> cases a1 <;> cases a2 <;> cases a3 <;> cases a4 <;> cases a5 <;> cases a6 <;> first | exact fun _ => rfl | exact fun h => absurd h (by decide)
theorem c_pick_scan {d a r e busy : Nat} {U : dU} {N : dN} {M : mm_M} {K : Int32 → mm_M → Prop} {x2 x3 : Int32} (ha : a ∈ mm_Sts) (hG : mm_G M.2.2) (hU : cU r U M) (hN : cN a N M) (he : e < 7) (hb : busy < 128) : ∀ (k i : Nat) (acc : Nat × Int32), i + k = 7 → acc.1 < 128 →
    (mm_CI mJ6_bitCount_0f7a4 d [.int (nI ((List.range' i k).foldl (scan (able U N e busy)) acc).1)] M (fun z78 m78 => if 2 ≤ z78 then (jX1_pickBaker_97 d a x2 x3 m78 K (nI e) (nI ((List.range' i k).foldl (scan (able U N e busy)) acc).1) (-1) 0 0) else (K ((List.range' i k).foldl (scan (able U N e busy)) acc).2 m78))) → jX1_pickBaker_9 d a x2 x3 M K (nI e) (nI busy) (nI acc.1) acc.2 (nI i) := by
  have hs := St_at ha
  obtain ⟨u1, u2, u3, u4, u5, -⟩ := hU
  obtain ⟨n1, n2, n3, n4, n5⟩ := hN
  intro k
  induction k with
  | zero =>
    intro i acc hi hacc h
    obtain rfl : i = 7 := by omega
    refine lX1_pickBaker_9 ha hG ?_
    rw [if_pos (by decide)]
    exact h
  | succ k ih =>
    intro i acc hi hacc h
    rw [List.range'_succ, List.foldl_cons] at h
    refine lX1_pickBaker_9 ha hG ?_
    rw [if_neg (lt7 (by omega)), ix8 e (by omega) i (by omega), nI_clamp (by omega), nI_clamp (by omega), n5 e i he (by omega), n3 i (by omega), nI_1]
    refine ⟨vp_in_nI (by omega) (by decide), ?_⟩
    have hi7 : i < 7 := by omega
    have no : able U N e busy i = false → jX1_pickBaker_9 d a x2 x3 M K (nI e) (nI busy) (nI acc.1) acc.2 (nI (i + 1)) := fun q => by
      refine ih (i + 1) acc (by omega) hacc ?_
      have : scan (able U N e busy) acc i = acc := by unfold scan; rw [q]; rfl
      rw [this] at h
      exact h
    by_cases c1 : N.2.2.2.2 e i ≤ 0
    · rw [if_pos c1]
      refine no ?_
      unfold able
      have : ¬ 0 < N.2.2.2.2 e i := Int32.not_lt.mpr c1
      simp [this]
    · rw [if_neg c1]
      refine ⟨vp_in_nI hi7 (by decide), r, u1, u2, ?_⟩
      rw [u3]
      have c1' : 0 < N.2.2.2.2 e i := Int32.not_le.mp c1
      by_cases c2 : N.2.2.1 i < U.1
      · rw [if_pos c2]
        refine no ?_
        unfold able
        have : ¬ U.1 ≤ N.2.2.1 i := Int32.not_le.mpr c2
        simp [this]
      · rw [if_neg c2]
        have c2' : U.1 ≤ N.2.2.1 i := Int32.not_lt.mp c2
        by_cases c3 : ((nI busy >>> (nI i &&& 31)) &&& 1) = 0
        · rw [if_pos c3]
          have c3' := (bit_at _ hb _ hi7).mp c3
          have hab : able U N e busy i = true := by unfold able; simp [c1', c2', c3']
          have : scan (able U N e busy) acc i = (acc.1 ||| 2 ^ i, nI i) := by unfold scan; rw [hab]; rfl
          rw [this] at h
          rw [(bit_or _ hacc _ hi7).1]
          exact ih (i + 1) (acc.1 ||| 2 ^ i, nI i) (by omega) (or_lt7 hacc hi7) h
        · rw [if_neg c3]
          refine no ?_
          unfold able
          have : busy.testBit i = true := by
            have := mt (bit_at _ hb _ hi7).mpr c3
            simpa using this
          simp [this]
/-- the second loop: the first of the most worth -/
theorem c_pick_best {d a r e ms : Nat} {U : dU} {N : dN} {M : mm_M} {K : Int32 → mm_M → Prop} {x2 x3 : Int32} {f : Nat → Bool} (ha : a ∈ mm_Sts) (hG : mm_G M.2.2) (hU : cU r U M) (hN : cN a N M) (vu : vU U) (vn : vN U N) (he : e < 7) (hms : ms < 128) (hf : ∀ j, j < 7 → ms.testBit j = f j) : ∀ (k i : Nat) (acc : Option (Nat × Int)) (y5 y6 : Int32) (m : mm_M), i + k = 7 → offM wM M m → y5 = pickR (acc.map (·.1)) → (∀ q, acc = some q → y6.toInt = q.2 ∧ q.1 < 7) →
    (∀ m', offM wM M m' → K (pickR (((List.range' i k).foldl (pickS f (fun b => worth U N b e)) acc).map (·.1))) m') → jX1_pickBaker_97 (d + 1) a x2 x3 m K (nI e) (nI ms) y5 y6 (nI i) := by
  have hs := St_at ha
  intro k
  induction k with
  | zero =>
    intro i acc y5 y6 m hi ho h5 h6 hK
    obtain rfl : i = 7 := by omega
    refine lX1_pickBaker_97 ha (by rw [ho.2.2]; exact hG) ?_
    rw [if_pos (by decide), h5]
    exact hK m ho
  | succ k ih =>
    intro i acc y5 y6 m hi ho h5 h6 hK
    have hi7 : i < 7 := by omega
    rw [List.range'_succ, List.foldl_cons] at hK
    have hGm : mm_G m.2.2 := by rw [ho.2.2]; exact hG
    refine lX1_pickBaker_97 ha hGm ?_
    rw [if_neg (lt7 (by omega)), nI_1]
    by_cases c : ((nI ms >>> (nI i &&& 31)) &&& 1) = 0
    · rw [if_pos c]
      have hb : f i = false := by rw [← hf i hi7]; exact (bit_at _ hms _ hi7).mp c
      have : pickS f (fun b => worth U N b e) acc i = acc := by unfold pickS; rw [hb]; rfl
      rw [this] at hK
      exact ih (i + 1) acc y5 y6 m (by omega) ho h5 h6 hK
    · rw [if_neg c]
      have hb : f i = true := by
        rw [← hf i hi7]
        have := mt (bit_at _ hms _ hi7).mpr c
        simpa using this
      refine c_loafKind (w := 0) ha hGm (cU_off hU ho (fun c j q => by unfold wM at q; omega)) (cN_off hN ho (fun c j q => by unfold wM at q; omega)) vu vn hi7 he (Or.inl rfl) (fun m1 x ho1 hx => ?_)
      have ho2 := offM_tr ho ho1
      have hx : x.toInt = worth U N i e := hx
      have take : pickS f (fun b => worth U N b e) acc i = some (i, worth U N i e) → jX1_pickBaker_97 (d + 1) a x2 x3 m1 K (nI e) (nI ms) (nI i) x (nI (i + 1)) := fun q => by
        rw [q] at hK
        exact ih (i + 1) (some (i, worth U N i e)) (nI i) x m1 (by omega) ho2 rfl (fun q hq => by cases hq; exact ⟨hx, hi7⟩) hK
      match acc, h5, h6, hK, take with
      | none, h5, h6, hK, take =>
        rw [if_pos (show y5 = -1 from h5)]
        exact take (by unfold pickS; rw [hb]; rfl)
      | some (b0, w0), h5, h6, hK, take =>
        obtain ⟨h61, h62⟩ := h6 _ rfl
        have h5 : y5 = nI b0 := h5
        have h61 : y6.toInt = w0 := h61
        have h62 : b0 < 7 := h62
        have hne : ¬ y5 = -1 := by rw [h5]; exact fun q => nI_pos (n := b0) (by omega) (by rw [q]; decide)
        rw [if_neg hne]
        by_cases c2 : x ≤ y6
        · rw [if_pos c2]
          have c2' := i32_le.mp c2
          rw [hx, h61] at c2'
          have : pickS f (fun b => worth U N b e) (some (b0, w0)) i = some (b0, w0) := by unfold pickS; rw [hb, if_pos rfl]; simp only; rw [if_neg (by omega)]
          rw [this] at hK
          exact ih (i + 1) (some (b0, w0)) y5 y6 m1 (by omega) ho2 h5 (fun q hq => by cases hq; exact ⟨h61, h62⟩) hK
        · rw [if_neg c2]
          have c2' := mt i32_le.mpr c2
          rw [hx, h61] at c2'
          exact take (by unfold pickS; rw [hb, if_pos rfl]; simp only; rw [if_pos (by omega)])
theorem pop_le : ∀ n, n < 128 → pop n ≤ 7 := by decide +kernel
theorem c_pickBaker {d a r e busy : Nat} {U : dU} {N : dN} {M : mm_M} {K : Int32 → mm_M → Prop} (ha : a ∈ mm_Sts) (hG : mm_G M.2.2) (hU : cU r U M) (hN : cN a N M) (vu : vU U) (vn : vN U N) (he : e < 7) (hb : busy < 128) (hK : ∀ m, offM wM M m → K (pickR (pickA U N e busy)) m) : mm_CI mX1_pickBaker (d + 2) [.ref 21, .ref a, .int (nI e), .int (nI busy)] M K := by
  refine rX1_pickBaker ha hG ?_
  refine c_pick_scan (acc := (0, -1)) ha hG hU hN he hb 7 0 (by omega) (by decide) ?_
  have hlt := scan_lt (able U N e busy) 7 0 (0, -1) (by omega) (by decide)
  refine c_bitCount hG (by omega) ?_
  by_cases c : 2 ≤ pop ((List.range' 0 7).foldl (scan (able U N e busy)) (0, -1)).1
  · refine ipos (nI_le (a := 2) c (by have := pop_le _ hlt; omega)) ?_
    exact c_pick_best (f := able U N e busy) ha hG hU hN vu vn he hlt (fun j hj => by rw [scan_bit]; simp [hj]) 7 0 none (-1) 0 M (by omega) offM_rf rfl (fun q hq => by cases hq) hK
  · refine ineg (nI_ge (a := pop ((List.range' 0 7).foldl (scan (able U N e busy)) (0, -1)).1) (b := 2) (by omega) (by decide)) ?_
    rw [scan7 (able U N e busy) (fun b => worth U N b e) (by omega)]
    exact hK M offM_rf
