/-! ===== spared: the class ===== -/
theorem feudTo_1 {N : dN} {n : Nat} : feudTo N (n + 1) = if feudB N n then feudTo N n ++ [n] else feudTo N n := by
  unfold feudTo
  rw [List.range'_concat, List.filter_append]
  simp only [Nat.zero_add, Nat.one_mul]
  by_cases c : feudB N n = true
  · rw [if_pos c, List.filter_cons_of_pos c, List.filter_nil]
  · rw [if_neg c, List.filter_cons_of_neg c, List.filter_nil, List.append_nil]
theorem feudTo_skip {N : dN} {n : Nat} : ∀ k, (∀ p, n ≤ p → p < n + k → feudB N p = false) → feudTo N (n + k) = feudTo N n
  | 0, _ => rfl
  | k + 1, h => by
    rw [show n + (k + 1) = (n + k) + 1 by omega, feudTo_1, h (n + k) (by omega) (by omega)]
    exact feudTo_skip k (fun p p1 p2 => h p p1 (by omega))
theorem feudTo_le {N : dN} {n : Nat} : ∀ k, (feudTo N n).length ≤ (feudTo N (n + k)).length
  | 0 => Nat.le_refl _
  | k + 1 => by
    have ih := feudTo_le (N := N) (n := n) k
    rw [show n + (k + 1) = (n + k) + 1 by omega, feudTo_1]
    split
    · rw [List.length_append]; omega
    · exact ih
theorem feudB_v {N : dN} {p : Nat} (h : feudB N p = true) : p / 8 < p % 8 ∧ p % 8 < 7 ∧ 0 < N.2.2.2.2 (p / 8) (p % 8) := by
  unfold feudB at h
  simp only [Bool.and_eq_true, decide_eq_true_eq] at h
  exact ⟨h.1.1, h.1.2, h.2⟩
theorem feudP_v {N : dN} {p : Nat} (h : p ∈ feudP N) : p / 8 < p % 8 ∧ p % 8 < 7 ∧ 0 < N.2.2.2.2 (p / 8) (p % 8) := feudB_v (List.mem_filter.mp h).2
def cFl (l : List Nat) (m : mm_M) : Prop := m.1 156 2 = nI l.length ∧ ∀ k p, l[k]? = some p → m.1 157 k = nI p
theorem cFl_off {W : Nat → Nat → Prop} {l : List Nat} {M m : mm_M} (h : cFl l M) (ho : offM W M m) (hW : ∀ c j, W c j → ¬ (c = 157 ∨ (c = 156 ∧ j = 2))) : cFl l m :=
  ⟨by rw [ho.1 _ _ (fun q => hW _ _ q (by omega))]; exact h.1, fun k p hp => by rw [ho.1 _ _ (fun q => hW _ _ q (by omega))]; exact h.2 k p hp⟩
def wFl (c j : Nat) : Prop := c = 157 ∨ (c = 156 ∧ j = 2)
theorem c_listFeuds {d a : Nat} {N : dN} {M : mm_M} {K : mm_M → Prop} (ha : a ∈ mm_Sts) (hG : mm_G M.2.2) (hN : cN a N M) (h10 : (feudP N).length ≤ 10) (hK : ∀ m, offM wFl M m → cFl (feudP N) m → K m) : mm_CV mX3_listFeuds d [.ref 156, .ref a] M K := by
  have hs := St_at ha
  have inner : ∀ (k p q : Nat) (m : mm_M), q + k = 7 → p < q → p < 7 → offM wFl M m → cFl (feudTo N (8 * p + q)) m → (∀ m', offM wFl M m' → cFl (feudTo N (8 * p + 8)) m' → jX3_listFeuds_7 d a m' K (nI (p + 1))) → jX3_listFeuds_17 d a m K (nI p) (nI q) := by
    intro k
    induction k with
    | zero =>
      intro p q m hq hpq hp ho hl hk
      obtain rfl : q = 7 := by omega
      refine lX3_listFeuds_17 ha (by rw [ho.2.2]; exact hG) (ipos (by decide) ?_)
      rw [nI_1]
      have e : feudTo N (8 * p + 8) = feudTo N (8 * p + 7) := feudTo_skip 1 (fun x x1 x2 => by
        apply Bool.eq_false_iff.mpr
        intro z
        have := feudB_v z
        omega)
      exact hk m ho (by rw [e]; exact hl)
    | succ k ih =>
      intro p q m hq hpq hp ho hl hk
      have hGm : mm_G m.2.2 := by rw [ho.2.2]; exact hG
      have hd8 : (8 * p + q) / 8 = p := by omega
      have hr8 : (8 * p + q) % 8 = q := by omega
      have f1 := feudTo_1 (N := N) (n := 8 * p + q)
      refine lX3_listFeuds_17 ha hGm (ineg (lt7 (by omega)) ?_)
      rw [ix8 p (by omega) q (by omega), nI_clamp (n := 8 * p + q) (by omega), ho.1 (a + 3) _ (by unfold wFl; omega), hN.2.2.2.2 p q hp (by omega), nI_1 q, hl.1]
      refine ⟨vp_in_nI (by omega) (by decide), ?_⟩
      by_cases c : N.2.2.2.2 p q ≤ 0
      · refine ipos c (ih p (q + 1) m (by omega) (by omega) hp ho ?_ hk)
        have hf : feudB N (8 * p + q) = false := by
          unfold feudB
          rw [hd8, hr8]
          have : ¬ 0 < N.2.2.2.2 p q := Int32.not_lt.mpr c
          simp [this]
        rw [hf] at f1
        have f1 : feudTo N (8 * p + (q + 1)) = feudTo N (8 * p + q) := f1
        rw [f1]; exact hl
      · have hf : feudB N (8 * p + q) = true := by
          unfold feudB
          rw [hd8, hr8]
          have h7 : q < 7 := by omega
          simp [Int32.not_le.mp c, hpq, h7]
        rw [if_pos hf] at f1
        have f1 : feudTo N (8 * p + (q + 1)) = feudTo N (8 * p + q) ++ [8 * p + q] := f1
        have hle := feudTo_le (N := N) (n := 8 * p + (q + 1)) (56 - (8 * p + (q + 1)))
        rw [show 8 * p + (q + 1) + (56 - (8 * p + (q + 1))) = 56 by omega, f1, List.length_append] at hle
        have hle : (feudTo N (8 * p + q)).length + 1 ≤ (feudP N).length := hle
        refine ineg c (ineg (nI_ge (b := 10) (by omega) (by decide)) ⟨vp_in_nI (by omega) (by decide), ?_⟩)
        rw [nI_clamp (n := (feudTo N (8 * p + q)).length) (by omega), uI_c (c := 156) (by decide), hl.1, nI_1]
        refine ih p (q + 1) _ (by omega) (by omega) hp (offM_tr ho (offM_tr (offM_uI (Or.inl rfl)) (offM_uI (Or.inr ⟨rfl, rfl⟩)))) ?_ hk
        rw [f1]
        refine ⟨by rw [uI_at, List.length_append]; rfl, fun k' x hx => ?_⟩
        rw [uI_c (by decide)]
        by_cases z : k' < (feudTo N (8 * p + q)).length
        · rw [List.getElem?_append_left z] at hx
          rw [uI_j (by omega)]
          exact hl.2 k' x hx
        · have hk' : k' = (feudTo N (8 * p + q)).length := by
            have := (List.getElem?_eq_some_iff.mp hx).1
            rw [List.length_append] at this
            have : k' < (feudTo N (8 * p + q)).length + 1 := this
            omega
          subst hk'
          rw [List.getElem?_append_right (Nat.le_refl _), Nat.sub_self] at hx
          have : 8 * p + q = x := by simpa using hx
          subst this
          exact uI_at _ _ _ _
  have outer : ∀ (k p : Nat) (m : mm_M), p + k = 7 → offM wFl M m → cFl (feudTo N (8 * p)) m → jX3_listFeuds_7 d a m K (nI p) := by
    intro k
    induction k with
    | zero =>
      intro p m hp ho hl
      obtain rfl : p = 7 := by omega
      exact lX3_listFeuds_7 ha (by rw [ho.2.2]; exact hG) (ipos (by decide) (hK m ho hl))
    | succ k ih =>
      intro p m hp ho hl
      refine lX3_listFeuds_7 ha (by rw [ho.2.2]; exact hG) (ineg (lt7 (by omega)) ?_)
      rw [nI_1]
      have e : feudTo N (8 * p + (p + 1)) = feudTo N (8 * p) := feudTo_skip (p + 1) (fun x x1 x2 => by
        apply Bool.eq_false_iff.mpr
        intro z
        have := feudB_v z
        omega)
      exact inner (7 - (p + 1)) p (p + 1) m (by omega) (by omega) (by omega) ho (by rw [e]; exact hl) (fun m' o' h' => ih (p + 1) m' (by omega) o' h')
  refine rX3_listFeuds ha hG ?_
  exact outer 7 0 _ (by omega) (offM_uI (Or.inr ⟨rfl, rfl⟩)) ⟨uI_at _ _ _ _, fun k p hp => by simp [feudTo] at hp⟩
theorem bit10 : ∀ b, b < 1024 → ∀ i, i < 10 → ((((nI b >>> (nI i &&& 31)) &&& 1) = 0 ↔ b.testBit i = false) ∧ (((nI b >>> (nI i &&& 31)) &&& 1) = 1 ↔ b.testBit i = true)) := fun b hb i hi => ⟨(bitX (by omega) (by omega)).2, (bitX (by omega) (by omega)).1⟩
theorem getD_at {l : List Nat} {i p : Nat} (h : l[i]? = some p) : l.getD i 0 = p := by rw [List.getD_eq_getElem?_getD, h]; rfl
theorem c_endFeuds {d a b : Nat} {l : List Nat} {N : dN} {M : mm_M} {K : mm_M → Prop} (ha : a ∈ mm_Sts) (hG : mm_G M.2.2) (hN : cN a N M) (hl : cFl l M) (h10 : l.length ≤ 10) (hv : ∀ p ∈ l, p / 8 < p % 8 ∧ p % 8 < 7) (hb : b < 1024) (hK : ∀ m, offM (wH a) M m → cN a (endA N l b) m → K m) : mm_CV mX3_endFeuds (d + 1) [.ref 156, .ref a, .int (nI b)] M K := by
  have hs := St_at ha
  refine rX3_endFeuds ha hG ?_
  have loop : ∀ (k i : Nat) (X : dN) (m : mm_M), i + k = l.length → offM (wH a) M m → cN a X m → (List.range' i k).foldl (endS l b) X = endA N l b → jX3_endFeuds_2 d a (nI b) m K (nI b) (nI i) := by
    intro k
    induction k with
    | zero =>
      intro i X m hi ho hX hf
      have hf : X = endA N l b := hf
      subst hf
      refine lX3_endFeuds_2 ha (by rw [ho.2.2]; exact hG) ?_
      rw [ho.1 156 2 (by unfold wH; omega), hl.1]
      exact ipos (nI_le (by omega) (by omega)) (hK m ho hX)
    | succ k ih =>
      intro i X m hi ho hX hf
      have hGm : mm_G m.2.2 := by rw [ho.2.2]; exact hG
      rw [List.range'_succ, List.foldl_cons] at hf
      refine lX3_endFeuds_2 ha hGm ?_
      rw [ho.1 156 2 (by unfold wH; omega), hl.1]
      refine ineg (nI_ge (by omega) (by omega)) (ineg (nI_ge (b := 10) (by omega) (by decide)) ?_)
      have hp := List.getElem?_eq_getElem (show i < l.length by omega)
      generalize l[i] = p at hp
      have hvp := hv p (List.mem_of_getElem? hp)
      obtain ⟨t1, t2⟩ := bit10 b hb i (by omega)
      unfold endS at hf
      by_cases c : ((nI b >>> (nI i &&& 31)) &&& 1) = 0
      · rw [if_neg (by rw [t1.mp c]; decide)] at hf
        rw [nI_1]
        exact ipos c (ih (i + 1) X m (by omega) ho hX hf)
      · have cb : b.testBit i = true := by simpa using mt t1.mpr c
        rw [if_pos cb, getD_at hp] at hf
        have em : m.1 157 i = nI p := by rw [ho.1 _ _ (by unfold wH; omega)]; exact hl.2 i p hp
        rw [nI_clamp (by omega), em, show nI p / 8 = nI (p / 8) from pk_div (d := 8) (by omega) (by decide) (by decide)]
        have er : nI p - nI (p / 8) * 8 = nI (p % 8) := by
          have := pk_rem (a := p) (d := 8) (by omega) (by decide) (by decide)
          rw [show nI p / nI 8 = nI (p / 8) from pk_div (d := 8) (by omega) (by decide) (by decide)] at this
          exact this
        rw [er, nI_1]
        refine ineg c ⟨vp_in_nI (by omega) (by decide), vp_in_nI (by omega) (by decide), c_setHate ha hGm hX (by omega) hvp.2 (fun m1 o1 n1 => ?_)⟩
        exact ih (i + 1) _ m1 (by omega) (offM_tr ho o1) n1 hf
  exact loop l.length 0 N M (by omega) offM_rf hN rfl
theorem endA_v {U : dU} {N : dN} {l : List Nat} {b : Nat} (vn : vN U N) (hv : ∀ p ∈ l, p / 8 < p % 8 ∧ p % 8 < 7) : vN U (endA N l b) ∧ (endA N l b).1 = N.1 := by
  have : ∀ (k i : Nat) (X : dN), i + k = l.length → vN U X ∧ X.1 = N.1 → vN U ((List.range' i k).foldl (endS l b) X) ∧ ((List.range' i k).foldl (endS l b) X).1 = N.1 := by
    intro k
    induction k with
    | zero => intro i X _ h; exact h
    | succ k ih =>
      intro i X hi h
      rw [List.range'_succ, List.foldl_cons]
      refine ih (i + 1) _ (by omega) ?_
      unfold endS
      split
      · have hp := List.getElem?_eq_getElem (show i < l.length by omega)
        generalize l[i] = p at hp
        have hvp := hv p (List.mem_of_getElem? hp)
        rw [getD_at hp]
        exact ⟨setH_v h.1 (by omega) (by unfold inI; decide) (fun z => absurd z (by decide)), h.2⟩
      · exact h
  exact this l.length 0 N (by omega) ⟨vn, rfl⟩
theorem endA_0 {N : dN} {l : List Nat} : endA N l 0 = N := by
  unfold endA
  refine fold_id _ (fun i _ => ?_)
  unfold endS
  rw [Nat.zero_testBit]
  rfl
def subB (a b : Nat) : Bool := (List.range 7).all (fun h => !(a.testBit h) || b.testBit h)
set_option maxRecDepth 100000 in
theorem sub_i : ∀ a, a < 128 → ∀ b, b < 128 → ((nI a &&& (nI b ^^^ (-1))) = 0 ↔ subB a b = true) := by decide +kernel
theorem subB_iff {a b : Nat} : subB a b = true ↔ ∀ h, h < 7 → a.testBit h = true → b.testBit h = true := by
  unfold subB
  rw [List.all_eq_true]
  constructor
  · intro q h hh ha
    have := q h (List.mem_range.mpr hh)
    rw [ha] at this
    simpa using this
  · intro q h hh
    cases ha : a.testBit h with
    | false => rfl
    | true => rw [q h (List.mem_range.mp hh) ha]; rfl
theorem daysC_sub {U : dU} {N : dN} (vu : vU U) (vn : vN U N) {rest h i : Nat} (h7 : h < 7) : ∀ k, (daysC U rest (i + k) N).2.1.testBit h = true → (daysC U rest i N).2.1.testBit h = true
  | 0, q => q
  | k + 1, q => daysC_sub vu vn h7 k (daysC_th vu vn (i + k) h q h7)
theorem c_live {d a r n lv : Nat} {U : dU} {X : dN} {M : mm_M} {K : Int32 → mm_M → Prop} (ha : a ∈ mm_Sts) (hG : mm_G M.2.2) (hU : cU r U M) (hX : cN a X M) (vu : vU U) (vx : vN U X) (hn : n ≤ 100) (hn1 : 1 ≤ n) (hlv : lv < 128) (hK : ∀ m (z : Int32), offM (wS a) M m → (z = 1 ∧ subB lv (daysC U 0 n X).2.1 = true) ∨ (z = 0 ∧ ¬ subB lv (daysC U 0 n X).2.1 = true) → K z m) : mm_CI mX3_live (d + 5) [.ref 21, .ref a, .int (nI n), .int (nI lv)] M K := by
  refine rX3_live ha hG ?_
  have loop : ∀ (k i : Nat) (m : mm_M), i + k = n → offM (wS a) M m → cN a (daysC U 0 i X) m → (1 ≤ i → subB lv (daysC U 0 i X).2.1 = true) → jX3_live_3 (d + 4) a (nI n) (nI lv) m K (nI n) (nI lv) (nI i) := by
    intro k
    induction k with
    | zero =>
      intro i m hi ho hXi hs
      obtain rfl : i = n := by omega
      exact lX3_live_3 ha (by rw [ho.2.2]; exact hG) (ipos (nI_le (Nat.le_refl _) (by omega)) (hK m 1 ho (Or.inl ⟨rfl, hs hn1⟩)))
    | succ k ih =>
      intro i m hi ho hXi hs
      have hGm : mm_G m.2.2 := by rw [ho.2.2]; exact hG
      have hst := St_at ha
      refine lX3_live_3 ha hGm (ineg (nI_ge (by omega) (by omega)) ?_)
      refine c_run (rest := 0) (t := false) ha hGm (cU_off hU ho (fun c j q => by unfold wS at q; omega)) hXi vu (daysC_v vu vx i) (by decide) (fun m2 R => ?_)
      have hN2 : cN a (daysC U 0 (i + 1) X) m2 := R.2.1
      have ho2 := offM_tr ho R.1
      rw [hN2.2.1, nI_1]
      have hlt := vN_lt vu (daysC_v (rest := 0) vu vx (i + 1))
      have hsi := sub_i lv hlv _ hlt
      refine ite_go (fun c => ih (i + 1) m2 (by omega) ho2 hN2 (fun _ => hsi.mp c)) (fun c => hK m2 0 ho2 (Or.inr ⟨rfl, fun z => c (hsi.mpr (subB_iff.mpr (fun h h7 hb => ?_)))⟩))
      have := subB_iff.mp z h h7 hb
      rw [show n = (i + 1) + (n - (i + 1)) by omega] at this
      exact daysC_sub vu vx h7 _ this
  exact loop n 0 M (by omega) offM_rf hX (fun q => by omega)
theorem goodS_sub {U : dU} {N : dN} {n b : Nat} : goodS U N n b ↔ subB (leftA U N n 0) (leftA U N n b) = true := subB_iff.symm
def wSp (c j : Nat) : Prop := wS 42 c j ∨ c = 157 ∨ (c = 156 ∧ (j = 0 ∨ j = 2 ∨ j = 3 ∨ j = 4))
theorem pop_lt2 : ∀ l, l < 11 → ∀ s, s < 1024 → s < 2 ^ l → pop s ≤ l ∧ (pop s = 0 → s = 0) := by decide +kernel
theorem c_spare {d r n V : Nat} {U : dU} {N : dN} {M : mm_M} {K : mm_M → Prop} (hG : mm_G M.2.2) (hU : cU r U M) (hN : cN 37 N M) (vu : vU U) (vn : vN U N) (h10 : (feudP N).length ≤ 10) (hn1 : 1 ≤ n) (hn : n ≤ 20) (hc : M.1 156 3 = nI V → M.1 156 4 = nI n → spareR U N n M) (hK : ∀ m, offM wSp M m → m.1 156 3 = nI V → m.1 156 4 = nI n → spareR U N n m → K m) : mm_CV mX3_spare (d + 6) [.ref 156, .ref 21, .ref 37, .ref 42, .int (nI n), .int (nI V)] M K := by
  generalize hl : feudP N = l at h10
  have hv : ∀ p ∈ l, p / 8 < p % 8 ∧ p % 8 < 7 := fun p hp => by rw [← hl] at hp; have := feudP_v hp; exact ⟨this.1, this.2.1⟩
  have h2l : 2 ^ l.length ≤ 1024 := (Nat.pow_le_pow_right (by decide) h10 : 2 ^ l.length ≤ 2 ^ 10)
  refine rX3_spare st37 st42 hG ?_
  have seek : jX3_spare_19 (d + 5) 37 42 (nI n) (nI V) M K (nI n) (nI V) := by
    refine lX3_spare_19 st37 st42 hG ?_
    have o0 : offM (fun c j => c = 156 ∧ (j = 0 ∨ j = 3 ∨ j = 4)) M (mm_uI (mm_uI (mm_uI M 156 3 (nI V)) 156 4 (nI n)) 156 0 0) := offM_tr (offM_tr (offM_uI (by omega)) (offM_uI (by omega))) (offM_uI (by omega))
    have g0 : (mm_uI (mm_uI (mm_uI M 156 3 (nI V)) 156 4 (nI n)) 156 0 0).1 156 0 = nI 0 := uI_at _ _ _ _
    have g3 : (mm_uI (mm_uI (mm_uI M 156 3 (nI V)) 156 4 (nI n)) 156 0 0).1 156 3 = nI V := by rw [uI_j (by decide), uI_j (by decide), uI_at]
    have g4 : (mm_uI (mm_uI (mm_uI M 156 3 (nI V)) 156 4 (nI n)) 156 0 0).1 156 4 = nI n := by rw [uI_j (by decide), uI_at]
    generalize mm_uI (mm_uI (mm_uI M 156 3 (nI V)) 156 4 (nI n)) 156 0 0 = m0 at o0 g0 g3 g4 ⊢
    have hG0 : mm_G m0.2.2 := by rw [o0.2.2]; exact hG
    refine c_listFeuds st37 hG0 (cN_off hN o0 (fun c j q => by omega)) (by rw [hl]; exact h10) (fun m1 o1 f1 => ?_)
    rw [hl] at f1
    have hG1 : mm_G m1.2.2 := by rw [o1.2.2]; exact hG0
    have hN1 : cN 37 N m1 := cN_off (cN_off hN o0 (fun c j q => by omega)) o1 (fun c j q => by unfold wFl at q; omega)
    have hU1 : cU r U m1 := cU_off (cU_off hU o0 (fun c j q => by omega)) o1 (fun c j q => by unfold wFl at q; omega)
    have a0 : m1.1 156 0 = nI 0 := by rw [o1.1 _ _ (by unfold wFl; omega)]; exact g0
    have a3 : m1.1 156 3 = nI V := by rw [o1.1 _ _ (by unfold wFl; omega)]; exact g3
    have a4 : m1.1 156 4 = nI n := by rw [o1.1 _ _ (by unfold wFl; omega)]; exact g4
    have oA : offM wSp M m1 := offM_tr (offM_mono o0 (fun c j q => by unfold wSp; omega)) (offM_mono o1 (fun c j q => by unfold wFl at q; unfold wSp; omega))
    -- what stays
    have st : ∀ m, offM (wS 42) m1 m → mm_G m.2.2 ∧ cN 37 N m ∧ cU r U m ∧ cFl l m ∧ m.1 156 2 = nI l.length ∧ m.1 156 0 = nI 0 ∧ m.1 156 3 = nI V ∧ m.1 156 4 = nI n ∧ offM wSp M m := fun m o => by
      have f := cFl_off f1 o (fun c j q => by unfold wS at q; omega)
      exact ⟨by rw [o.2.2]; exact hG1, cN_off hN1 o (fun c j q => by unfold wS at q; omega), cU_off hU1 o (fun c j q => by unfold wS at q; omega), f, f.1, by rw [o.1 _ _ (by unfold wS; omega)]; exact a0, by rw [o.1 _ _ (by unfold wS; omega)]; exact a3, by rw [o.1 _ _ (by unfold wS; omega)]; exact a4, offM_tr oA (offM_mono o (fun c j q => Or.inl q))⟩
    have fin : ∀ m b, offM wSp M m → m.1 156 3 = nI V → m.1 156 4 = nI n → cFl l m → m.1 156 0 = nI b → bestP U N n b → K m := fun m b o b3 b4 f b0 hb => hK m o b3 b4 ⟨by rw [hl]; exact h10, b, hb, b0, by rw [hl]; exact f.1, by rw [hl]; exact f.2⟩
    have hlv : leftA U N n 0 < 128 := by
      unfold leftA
      exact vN_lt vu (daysC_v vu (endA_v vn (by rw [hl]; exact hv)).1 n)
    have bitsL : ∀ (size : Nat), size + 1 ≤ l.length → (∀ s, s < 2 ^ l.length → size + 1 < pop s → ¬ goodS U N n s) → ((∀ s, s < 2 ^ l.length → size < pop s → ¬ goodS U N n s) → ∀ m, offM (wS 42) m1 m → jX3_spare_81 (d + 5) 37 42 (nI n) (nI V) m K (nI n) (nI (leftA U N n 0)) (nI size)) → ∀ (k b : Nat) (m : mm_M), b + k = 2 ^ l.length → offM (wS 42) m1 m → (∀ s, s < b → pop s = size + 1 → ¬ goodS U N n s) → jX3_spare_89 (d + 5) 37 42 (nI n) (nI V) m K (nI n) (nI (leftA U N n 0)) (nI (size + 1)) (nI b) := by
      intro size hsz hbig hnext k
      induction k with
      | zero =>
        intro b m hb ho hs
        obtain ⟨q1, q2, q3, q4, q5, -⟩ := st m ho
        refine lX3_spare_89 st37 st42 q1 ?_
        rw [q5, sh21 _ (by omega), pk_m1]
        refine ipos (nI_le (by omega) (by omega)) (hnext (fun s hs1 hs2 => ?_) m ho)
        by_cases c : pop s = size + 1
        · exact hs s (by omega) c
        · exact hbig s hs1 (by omega)
      | succ k ih =>
        intro b m hb ho hs
        obtain ⟨q1, q2, q3, q4, q5, -⟩ := st m ho
        have hb1024 : b < 1024 := by omega
        have hpb := (pop_lt2 10 (by decide) b hb1024 (by omega)).1
        refine lX3_spare_89 st37 st42 q1 ?_
        rw [q5, sh21 _ (by omega)]
        refine ineg (nI_ge (by omega) (by omega)) (c_bitCount q1 hb1024 ?_)
        rw [nI_1]
        by_cases c : pop b = size + 1
        · refine ipos (by rw [c]) ?_
          refine c_copyFrom st42 st37 (by decide) q1 q2 (fun m2 o2 n2 _ => ?_)
          have ho2 : offM (wS 42) m1 m2 := offM_tr ho (offM_mono o2 (fun c j q => by unfold wCp at q; unfold wS; omega))
          obtain ⟨r1, r2, r3, r4, -⟩ := st m2 ho2
          refine c_endFeuds st42 r1 n2 r4 h10 hv hb1024 (fun m3 o3 n3 => ?_)
          have ho3 : offM (wS 42) m1 m3 := offM_tr ho2 (offM_mono o3 (fun c j q => by unfold wH at q; unfold wS; omega))
          obtain ⟨t1, t2, t3, t4, -⟩ := st m3 ho3
          have e1 : leftA U N n b = (daysC U 0 n (endA N l b)).2.1 := by unfold leftA; rw [hl]
          refine c_live st42 t1 t3 n3 vu (endA_v vn hv).1 (by omega) hn1 hlv (fun m4 z o4 hz => ?_)
          have ho4 := offM_tr ho3 o4
          obtain ⟨w1, w2, w3, w4, w5, w6, w7, w8, w9⟩ := st m4 ho4
          rw [← e1, ← goodS_sub] at hz
          rcases hz with ⟨rfl, hz⟩ | ⟨rfl, hz⟩
          · refine ineg (by decide) (fin _ b (offM_tr w9 (offM_uI (by unfold wSp; omega))) (by rw [uI_j (by decide)]; exact w7) (by rw [uI_j (by decide)]; exact w8) ⟨by rw [uI_j (by decide)]; exact w4.1, fun k p hp => by rw [uI_c (by decide)]; exact w4.2 k p hp⟩ (uI_at _ _ _ _) ⟨by rw [hl]; omega, fun _ => hz, fun s s1 s2 s3 => ?_⟩)
            rw [hl] at s2
            by_cases cs : pop s ≤ size + 1
            · by_cases ce : pop s = size + 1
              · refine Or.inr ⟨by omega, Decidable.byContradiction (fun q => hs s (by omega) ce s3)⟩
              · exact Or.inl (by omega)
            · exact absurd s3 (hbig s s2 (by omega))
          · refine ipos rfl (ih (b + 1) m4 (by omega) ho4 (fun s s1 s2 => ?_))
            by_cases ce : s = b
            · rw [ce]; exact hz
            · exact hs s (by omega) s2
        · refine ineg (fun q => c ((nI_eq (by omega) (by omega)).mp q)) (ih (b + 1) m (by omega) ho (fun s s1 s2 => ?_))
          by_cases ce : s = b
          · rw [ce] at s2; exact absurd s2 c
          · exact hs s (by omega) s2
    have sizes : ∀ (size : Nat), size ≤ l.length → (∀ s, s < 2 ^ l.length → size < pop s → ¬ goodS U N n s) → ∀ m, offM (wS 42) m1 m → jX3_spare_81 (d + 5) 37 42 (nI n) (nI V) m K (nI n) (nI (leftA U N n 0)) (nI size) := by
      intro size
      induction size with
      | zero =>
        intro hsz hbig m ho
        obtain ⟨w1, w2, w3, w4, w5, w6, w7, w8, w9⟩ := st m ho
        refine lX3_spare_81 st37 st42 w1 (ipos (by decide) (fin m 0 w9 w7 w8 w4 w6 ⟨Nat.two_pow_pos _, fun q => absurd rfl q, fun s s1 s2 s3 => ?_⟩))
        rw [hl] at s2
        have := pop_lt2 l.length (by omega) s (by omega) s2
        exact absurd s3 (hbig s s2 (by omega))
      | succ size ih =>
        intro hsz hbig m ho
        obtain ⟨w1, -⟩ := st m ho
        refine lX3_spare_81 st37 st42 w1 (ineg (nI_nle (by omega) (by omega)) ?_)
        exact bitsL size hsz hbig (fun hb m' o' => ih (by omega) hb m' o') (2 ^ l.length) 0 m (by omega) ho (fun s hs => by omega)
    refine c_copyFrom st42 st37 (by decide) hG1 hN1 (fun m2 o2 n2 _ => ?_)
    have ho2 : offM (wS 42) m1 m2 := offM_mono o2 (fun c j q => by unfold wCp at q; unfold wS; omega)
    have loop : ∀ (k i : Nat) (m : mm_M), i + k = n → offM (wS 42) m1 m → cN 42 (daysC U 0 i N) m → jX3_spare_49 (d + 5) 37 42 (nI n) (nI V) m K (nI n) (nI i) := by
      intro k
      induction k with
      | zero =>
        intro i m hi ho hX
        obtain rfl : i = n := by omega
        obtain ⟨w1, w2, w3, w4, w5, -⟩ := st m ho
        refine lX3_spare_49 st37 st42 w1 (ipos (nI_le (Nat.le_refl _) (by omega)) ?_)
        have e0 : leftA U N i 0 = (daysC U 0 i N).2.1 := by unfold leftA; rw [endA_0]
        rw [hX.2.1, w5, ← e0]
        refine sizes l.length (Nat.le_refl _) (fun s s1 s2 => ?_) m ho
        have := (pop_lt2 l.length (by omega) s (by omega) s1).1
        omega
      | succ k ih =>
        intro i m hi ho hX
        obtain ⟨w1, w2, w3, -⟩ := st m ho
        refine lX3_spare_49 st37 st42 w1 (ineg (nI_ge (by omega) (by omega)) ?_)
        refine c_run (rest := 0) (t := false) st42 w1 w3 hX vu (daysC_v vu vn i) (by decide) (fun m3 R => ?_)
        rw [nI_1]
        exact ih (i + 1) m3 (by omega) (offM_tr ho R.1) R.2.1
    exact loop n 0 m2 (by omega) ho2 n2
  exact ite_go (fun c => ite_go (fun c2 => hK M offM_rf c c2 (hc c c2)) (fun _ => seek)) (fun _ => seek)
/-! the pair that stands at a place -/
def nthB (l : List Nat) (b k : Nat) : Int32 := match ((List.range' 0 l.length).filter b.testBit)[k]? with
  | some i => nI (l.getD i 0)
  | none => -1
theorem c_sparedPair {d b : Nat} {x : Int32} {l : List Nat} {M : mm_M} {K : Int32 → mm_M → Prop} (hG : mm_G M.2.2) (hl : cFl l M) (h10 : l.length ≤ 10) (hb : b < 1024) (h0 : M.1 156 0 = nI b) (hK : K (if 0 ≤ x.toInt then nthB l b x.toInt.toNat else -1) M) : mm_CI mX3_sparedPair d [.ref 156, .int x] M K := by
  refine rX3_sparedPair hG ?_
  by_cases cx : 0 ≤ x.toInt
  · rw [if_pos cx] at hK
    obtain ⟨k, hk, rfl⟩ : ∃ k, k < 2 ^ 31 ∧ x = nI k := by
      obtain ⟨j, j1, j2⟩ := nI_of (x := x) (fun q => by have := lt0.mp q; omega)
      exact ⟨j, j1, j2⟩
    rw [nI_toInt hk] at hK
    have hK : K (nthB l b k) M := hK
    have loop : ∀ (q i c : Nat), i + q = l.length → c ≤ k → (((List.range' 0 l.length).filter b.testBit)[k]? = ((List.range' i q).filter b.testBit)[k - c]?) → jX3_sparedPair_4 d (nI k) M K (nI (k - c)) (nI i) := by
      intro q
      induction q with
      | zero =>
        intro i c hi hc he
        refine lX3_sparedPair_4 hG ?_
        rw [hl.1]
        refine ipos (nI_le (by omega) (by omega)) ?_
        unfold nthB at hK
        rw [he] at hK
        simpa using hK
      | succ q ih =>
        intro i c hi hc he
        obtain ⟨t1, t2⟩ := bit10 b hb i (by omega)
        refine lX3_sparedPair_4 hG ?_
        rw [hl.1, h0, nI_1]
        refine ineg (nI_ge (by omega) (by omega)) (ineg (nI_ge (b := 10) (by omega) (by decide)) ?_)
        rw [List.range'_succ] at he
        by_cases cb : b.testBit i = true
        · refine ineg (fun z => by rw [t1.mp z] at cb; cases cb) ?_
          rw [List.filter_cons_of_pos cb] at he
          by_cases ck : k - c = 0
          · rw [ck] at he ⊢
            refine ipos rfl ⟨vp_in_nI (by omega) (by decide), ?_⟩
            have hp := List.getElem?_eq_getElem (show i < l.length by omega)
            generalize l[i] = p at hp
            rw [nI_clamp (by omega), hl.2 i p hp]
            unfold nthB at hK
            rw [he] at hK
            have hK : K (nI (l.getD i 0)) M := hK
            rw [getD_at hp] at hK
            exact hK
          · refine ineg (nI_ne0 (by omega) (by omega)) ?_
            have e1 : k - c = (k - (c + 1)) + 1 := by omega
            rw [e1] at he ⊢
            rw [pk_m1]
            exact ih (i + 1) (c + 1) (by omega) (by omega) he
        · have cb' : b.testBit i = false := by simpa using cb
          rw [List.filter_cons_of_neg cb] at he
          exact ipos (t1.mpr cb') (ih (i + 1) c (by omega) hc he)
    exact loop l.length 0 0 (by omega) (Nat.zero_le _) rfl
  · rw [if_neg cx] at hK
    have loop : ∀ (q i c : Nat) (y : Int32), i + q = l.length → c ≤ i → y + nI c = x → jX3_sparedPair_4 d x M K y (nI i) := by
      intro q
      induction q with
      | zero =>
        intro i c y hi hc hy
        refine lX3_sparedPair_4 hG ?_
        rw [hl.1]
        exact ipos (nI_le (by omega) (by omega)) hK
      | succ q ih =>
        intro i c y hi hc hy
        refine lX3_sparedPair_4 hG ?_
        rw [hl.1, nI_1]
        refine ineg (nI_ge (by omega) (by omega)) (ineg (nI_ge (b := 10) (by omega) (by decide)) (ite_go (fun _ => ih (i + 1) c y (by omega) (by omega) hy) (fun _ => ineg (fun z => cx ?_) (ih (i + 1) (c + 1) _ (by omega) (by omega) ?_))))
        · rw [z, Int32.zero_add] at hy
          rw [← hy, nI_toInt (by omega)]
          omega
        · rw [Int32.add_assoc, Int32.add_comm (-1), pk_m1]
          exact hy
    exact loop l.length 0 0 x (by omega) (Nat.le_refl _) (by rw [nI_0, Int32.add_zero])
