/-! ===== flour: the class ===== -/
theorem supA_v {U : dU} {N : dN} {h v : Nat} (vn : vN U N) (hv : v < 100) : vN U (supA N h v) := vSup vn (by unfold inI; rw [nI_toInt (by omega)]; omega)
def wLo (c j : Nat) : Prop := wS 42 c j
theorem c_suppose {d h v : Nat} {N : dN} {M : mm_M} {K : mm_M → Prop} (hG : mm_G M.2.2) (hN : cN 37 N M) (hh : h < 7) (hK : ∀ m, offM (wS 42) M m → cN 42 (supA N h v) m → K m) : mm_CV mX8_suppose (d + 2) [.ref 37, .ref 42, .int (nI h), .int (nI v)] M K := by
  refine rX8_suppose st37 st42 hG (c_copyFrom st42 st37 (by decide) hG hN (fun m1 o1 n1 _ => ineg (nI_pos (by omega)) (ineg (lt7 hh) ⟨vp_in_nI hh (by decide), ?_⟩)))
  rw [nI_clamp (by omega)]
  exact hK _ (offM_tr (offM_mono o1 (fun c j q => by unfold wCp at q; unfold wS; omega)) (offM_uI (by unfold wS; omega))) (cN_uF n1)
def dsN (S : dSE) : Nat → Nat
  | 0 => 0
  | k + 1 => max (dsN S k) ((S.2 (3 * k)).toInt.toNat + 1)
theorem dsN_ge {S : dSE} : ∀ n k, k < n → (S.2 (3 * k)).toInt.toNat < dsN S n
  | 0, k, h => by omega
  | n + 1, k, h => by
    show _ < max (dsN S n) ((S.2 (3 * n)).toInt.toNat + 1)
    by_cases e : k = n
    · subst e; omega
    · have := dsN_ge (S := S) n k (by omega); omega
theorem dsN_ex {S : dSE} : ∀ n, 0 < dsN S n → ∃ k, k < n ∧ (S.2 (3 * k)).toInt.toNat + 1 = dsN S n
  | 0, h => by cases h
  | n + 1, h => by
    have e : dsN S (n + 1) = max (dsN S n) ((S.2 (3 * n)).toInt.toNat + 1) := rfl
    by_cases c : dsN S n ≤ (S.2 (3 * n)).toInt.toNat + 1
    · exact ⟨n, by omega, by omega⟩
    · obtain ⟨k, k1, k2⟩ := dsN_ex (S := S) n (by omega)
      exact ⟨k, by omega, by omega⟩
theorem dsN_le {S : dSE} {hs : Nat} (vs : vSE hs S) : ∀ n, n ≤ S.1 → dsN S n ≤ 31
  | 0, _ => Nat.zero_le _
  | n + 1, h => by
    have := dsN_le vs n (by omega)
    have h1 := (vs.2 n (by omega)).1
    unfold inI at h1
    show max (dsN S n) ((S.2 (3 * n)).toInt.toNat + 1) ≤ 31
    omega
theorem x3k (k : Nat) : 3 * nI k = nI (3 * k) ∧ nI (3 * k) + 1 = nI (3 * k + 1) ∧ nI (3 * k) + 2 = nI (3 * k + 2) := ⟨pk_mul 3 k, nI_add _ 1, nI_add _ 2⟩
theorem c_daysSeen {d hs : Nat} {S : dSE} {M : mm_M} {K : Int32 → mm_M → Prop} (hG : mm_G M.2.2) (hS : cSE S M) (vs : vSE hs S) (hK : K (nI (dsN S S.1)) M) : mm_CI mX8_daysSeen (d + 1) [.ref 159] M K := by
  have h16 := vs.1
  refine rX8_daysSeen hG ?_
  have loop : ∀ (k i : Nat), i + k = S.1 → jX8_daysSeen_4 d M K (nI (dsN S i)) (nI i) := by
    intro k
    induction k with
    | zero =>
      intro i hi
      obtain rfl : i = S.1 := by omega
      refine lX8_daysSeen_4 hG ?_
      rw [hS.1]
      exact ipos (nI_le (Nat.le_refl _) (by omega)) hK
    | succ k ih =>
      intro i hi
      obtain ⟨x1, x2, x3⟩ := x3k i
      have h1 := (vs.2 i (by omega)).1
      unfold inI at h1
      have hl := dsN_le vs i (by omega)
      refine lX8_daysSeen_4 hG ?_
      rw [hS.1, x1, nI_clamp (by omega), hS.2 _ (by omega), nI_1]
      refine ineg (nI_ge (by omega) (by omega)) (ineg (nI_ge (b := 16) (by omega) (by decide)) ⟨vp_in_nI (by omega) (by decide), ?_⟩)
      have ex := i32_nI h1.1
      have ih := ih (i + 1) (by omega)
      have e : dsN S (i + 1) = max (dsN S i) ((S.2 (3 * i)).toInt.toNat + 1) := rfl
      rw [e] at ih
      rw [ex, nI_1]
      by_cases c : dsN S i < (S.2 (3 * i)).toInt.toNat + 1
      · rw [if_pos (nI_lt c (by omega))]
        rw [Nat.max_eq_right (by omega)] at ih
        exact ih
      · rw [if_neg (nI_nlt (by omega) (by omega))]
        rw [Nat.max_eq_left (by omega)] at ih
        exact ih
  exact loop S.1 0 (by omega)
theorem fitA_iff {U : dU} {N : dN} {S : dSE} {h v : Nat} : fitA U N S h v = true ↔ ∀ k, k < S.1 → fitK U N S h v k = true := by
  unfold fitA
  rw [List.all_eq_true]
  exact ⟨fun q k hk => q k (List.mem_range'_1.mpr ⟨by omega, by omega⟩), fun q k hk => q k (by have := List.mem_range'_1.mp hk; omega)⟩
theorem c_allIsSo {d r h v : Nat} {U : dU} {N : dN} {S : dSE} {M : mm_M} {K : Int32 → mm_M → Prop} (hG : mm_G M.2.2) (hU : cU r U M) (hX : cN 42 (supA N h v) M) (vu : vU U) (vn : vN U N) (hd : inI 0 999 N.1) (hv : v < 100) (hS : cSE S M) (vs : vSE U.2.1 S) (hK : ∀ m, offM (wS 42) M m → K (if fitA U N S h v then 1 else 0) m) : mm_CI mX8_allIsSo (d + 5) [.ref 159, .ref 21, .ref 42, .int (nI (dsN S S.1))] M K := by
  have h16 := vs.1
  have hu7 := vu.2.1
  have hD := dsN_le vs S.1 (Nat.le_refl _)
  have vx := supA_v (h := h) vn hv
  have hdx : inI 0 999 (supA N h v).1 := hd
  have e999 : (999 : Int32).toInt = 999 := rfl
  have yes : ∀ m, offM (wS 42) M m → (∀ k, k < S.1 → fitK U N S h v k = true) → K 1 m := fun m o q => by
    have := hK m o
    rw [if_pos (fitA_iff.mpr q)] at this
    exact this
  have no : ∀ m k, offM (wS 42) M m → k < S.1 → ¬ fitK U N S h v k = true → K 0 m := fun m k o hk q => by
    have := hK m o
    rw [if_neg (fun z => q (fitA_iff.mp z k hk))] at this
    exact this
  have nat : ∀ k, k < S.1 → S.2 (3 * k) = nI (S.2 (3 * k)).toInt.toNat ∧ (S.2 (3 * k)).toInt.toNat ≤ 30 ∧ S.2 (3 * k + 1) = nI (S.2 (3 * k + 1)).toInt.toNat ∧ (S.2 (3 * k + 1)).toInt.toNat < U.2.1 ∧ (S.2 (3 * k)).toInt = ((S.2 (3 * k)).toInt.toNat : Int) := fun k hk => by
    obtain ⟨a1, a2, a3⟩ := vs.2 k hk
    unfold inI at a1
    exact ⟨i32_nI a1.1, by omega, i32_nI a2.1, by omega, by omega⟩
  refine rX8_allIsSo st42 hG ?_
  have days : ∀ (k t : Nat) (m : mm_M), t + k = dsN S S.1 → N.1.toInt + t ≤ 999 → offM (wS 42) M m → cN 42 (daysC U 0 t (supA N h v)) m → (∀ i, i < S.1 → (S.2 (3 * i)).toInt.toNat < t → fitK U N S h v i = true) → jX8_allIsSo_3 (d + 4) 42 (nI (dsN S S.1)) m K (nI (dsN S S.1)) (nI t) := by
    intro k
    induction k with
    | zero =>
      intro t m ht hday o hXt hf
      obtain rfl : t = dsN S S.1 := by omega
      exact lX8_allIsSo_3 st42 (by rw [o.2.2]; exact hG) (ipos (nI_le (Nat.le_refl _) (by omega)) (yes m o (fun i hi => hf i hi (dsN_ge S.1 i hi))))
    | succ k ih =>
      intro t m ht hday o hXt hf
      have hGm : mm_G m.2.2 := by rw [o.2.2]; exact hG
      have hdt := daysC_day (U := U) (rest := 0) hdx t (by show N.1.toInt + t ≤ 999; exact hday)
      have hdt : (daysC U 0 t (supA N h v)).1.toInt = N.1.toInt + t := hdt
      refine lX8_allIsSo_3 st42 hGm (ineg (nI_ge (by omega) (by omega)) ?_)
      rw [hXt.1]
      refine ite_go (fun c => ?_) (fun c => ?_)
      · have c' := i32_lt.mp c
        rw [hdt, e999] at c'
        refine c_run (rest := 0) (t := true) st42 hGm (cU_off hU o (fun c j q => by unfold wS at q; omega)) hXt vu (daysC_v vu vx t) (by decide) (fun m2 R => ?_)
        obtain ⟨o2, n2, -, t2, -, -⟩ := R
        have ho2 := offM_tr o o2
        have hS2 : cSE S m2 := cSE_off hS (offA_M ho2) (fun c j q => by unfold wS at q; omega)
        have hG2 : mm_G m2.2.2 := by rw [ho2.2.2]; exact hG
        have rows : ∀ (q i : Nat), i + q = S.1 → (∀ j, j < i → (S.2 (3 * j)).toInt.toNat = t → fitK U N S h v j = true) → jX8_allIsSo_31 (d + 4) 42 (nI (dsN S S.1)) m2 K (nI (dsN S S.1)) (nI t) (nI i) := by
          intro q
          induction q with
          | zero =>
            intro i hi hj
            refine lX8_allIsSo_31 st42 hG2 ?_
            rw [hS2.1, nI_1]
            refine ipos (nI_le (by omega) (by omega)) (ih (t + 1) m2 (by omega) (by omega) ho2 n2 (fun j hj1 hj2 => ?_))
            by_cases e : (S.2 (3 * j)).toInt.toNat = t
            · exact hj j (by omega) e
            · exact hf j hj1 (by omega)
          | succ q ihq =>
            intro i hi hj
            obtain ⟨x1, x2, x3⟩ := x3k i
            obtain ⟨a1, a2, a3, a4, a5⟩ := nat i (by omega)
            refine lX8_allIsSo_31 st42 hG2 ?_
            rw [hS2.1, x1, x2, x3, nI_clamp (n := 3 * i) (by omega), nI_clamp (n := 3 * i + 1) (by omega), nI_clamp (n := 3 * i + 2) (by omega), hS2.2 _ (by omega), hS2.2 _ (by omega), hS2.2 _ (by omega), nI_1 t, nI_1 i]
            refine ineg (nI_ge (by omega) (by omega)) (ineg (nI_ge (b := 16) (by omega) (by decide)) ⟨vp_in_nI (by omega) (by decide), vp_in_nI (by omega) (by decide), ?_⟩)
            have fk : (S.2 (3 * i)).toInt.toNat = t → (fitK U N S h v i = true ↔ taR true ((serveA U (daysC U 0 t (supA N h v)) 0).2.2.1 (S.2 (3 * i + 1)).toInt.toNat) = S.2 (3 * i + 2)) := fun e => by
              unfold fitK tasteAt
              rw [e, a5, e]
              have : N.1.toInt + (t : Int) < 999 := c'
              simp [this]
            refine ite_go (fun e => ?_) (fun e => ihq (i + 1) (by omega) (fun j hj1 hj2 => ?_))
            · have e' : (S.2 (3 * i)).toInt.toNat = t := (nI_eq (by omega) (by omega)).mp (a1.symm.trans e)
              have fk := fk e'
              rw [show (S.2 (3 * i + 1)).toNatClampNeg = (S.2 (3 * i + 1)).toInt.toNat from rfl]
              refine ineg (by rw [a3]; exact nI_pos (by omega)) (ineg (by rw [a3]; exact lt7 (by omega)) ⟨by rw [a3]; exact vp_in_nI (by omega) (by decide), vp_in_nI (by omega) (by decide), ?_⟩)
              rw [t2 _ (by omega)]
              refine ite_go (fun cm => ihq (i + 1) (by omega) (fun j hj1 hj2 => ?_)) (fun cm => no m2 i ho2 (by omega) (mt fk.mp cm))
              by_cases ej : j = i
              · subst ej; exact fk.mpr cm
              · exact hj j (by omega) hj2
            · by_cases ej : j = i
              · subst ej
                exact absurd (by rw [a1, hj2]) e
              · exact hj j (by omega) hj2
        exact rows S.1 0 (by omega) (fun j hj => by omega)
      · have c' := mt i32_lt.mpr c
        rw [hdt, e999] at c'
        obtain ⟨q, q1, q2⟩ := dsN_ex (S := S) S.1 (by omega)
        refine no m q o q1 (fun z => ?_)
        unfold fitK at z
        have := of_decide_eq_true (Bool.and_eq_true_iff.mp z).1
        have a5 := (nat q q1).2.2.2.2
        omega
  exact days (dsN S S.1) 0 M (by omega) (by unfold inI at hd; omega) offM_rf hX (fun i hi hl => by omega)
theorem fitTo_1 {U : dU} {N : dN} {S : dSE} {h n : Nat} : fitTo U N S h (n + 1) = if fitA U N S h n then fitTo U N S h n ++ [n] else fitTo U N S h n := by
  unfold fitTo
  rw [List.range'_concat, List.filter_append]
  simp only [Nat.zero_add, Nat.one_mul]
  by_cases c : fitA U N S h n = true
  · rw [if_pos c, List.filter_cons_of_pos c, List.filter_nil]
  · rw [if_neg c, List.filter_cons_of_neg c, List.filter_nil, List.append_nil]
theorem fitTo_len {U : dU} {N : dN} {S : dSE} {h n : Nat} : (fitTo U N S h n).length ≤ n := by
  unfold fitTo
  have := List.length_filter_le (fitA U N S h) (List.range' 0 n)
  rw [List.length_range'] at this
  exact this
theorem fitTo_mem {U : dU} {N : dN} {S : dSE} {h n v : Nat} (hv : v ∈ fitTo U N S h n) : v < n ∧ fitA U N S h v = true := by
  obtain ⟨h1, h2⟩ := List.mem_filter.mp hv
  have := List.mem_range'_1.mp h1
  exact ⟨by omega, h2⟩
theorem head_snoc {l : List Nat} {x : Nat} : (l ++ [x]).head? = match l.head? with | none => some x | some y => some y := by
  cases l with
  | nil => rfl
  | cons y l => rfl
def wLk (c j : Nat) : Prop := wS 42 c j ∨ c = 161 ∨ (c = 159 ∧ (j = 1 ∨ j = 2 ∨ j = 3 ∨ j = 11 ∨ j = 12))
theorem c_look {d r h V : Nat} {U : dU} {N : dN} {S : dSE} {M : mm_M} {K : mm_M → Prop} (hG : mm_G M.2.2) (hU : cU r U M) (hN : cN 37 N M) (vu : vU U) (vn : vN U N) (hd : inI 0 999 N.1) (hh : h < 7) (hS : cSE S M) (vs : vSE U.2.1 S) (hc : M.1 159 11 = nI V → M.1 159 12 = nI h → lookR U N S h M) (hK : ∀ m, offM wLk M m → m.1 159 11 = nI V → m.1 159 12 = nI h → lookR U N S h m → K m) : mm_CV mX8_look (d + 6) [.ref 159, .ref 21, .ref 37, .ref 42, .int (nI h), .int (nI V)] M K := by
  refine rX8_look st37 st42 hG ?_
  have seek : jX8_look_19 (d + 5) 37 42 (nI h) (nI V) M K (nI h) (nI V) := by
    refine lX8_look_19 st37 st42 hG ?_
    have o0 : offM (fun c j => c = 159 ∧ (j = 1 ∨ j = 2 ∨ j = 3 ∨ j = 11 ∨ j = 12)) M (mm_uI (mm_uI (mm_uI (mm_uI (mm_uI M 159 11 (nI V)) 159 12 (nI h)) 159 1 0) 159 2 (-1)) 159 3 (-1)) := offM_tr (offM_tr (offM_tr (offM_tr (offM_uI (by omega)) (offM_uI (by omega))) (offM_uI (by omega))) (offM_uI (by omega))) (offM_uI (by omega))
    have g11 : (mm_uI (mm_uI (mm_uI (mm_uI (mm_uI M 159 11 (nI V)) 159 12 (nI h)) 159 1 0) 159 2 (-1)) 159 3 (-1)).1 159 11 = nI V := by rw [uI_j (by decide), uI_j (by decide), uI_j (by decide), uI_j (by decide), uI_at]
    have g12 : (mm_uI (mm_uI (mm_uI (mm_uI (mm_uI M 159 11 (nI V)) 159 12 (nI h)) 159 1 0) 159 2 (-1)) 159 3 (-1)).1 159 12 = nI h := by rw [uI_j (by decide), uI_j (by decide), uI_j (by decide), uI_at]
    have g1 : (mm_uI (mm_uI (mm_uI (mm_uI (mm_uI M 159 11 (nI V)) 159 12 (nI h)) 159 1 0) 159 2 (-1)) 159 3 (-1)).1 159 1 = 0 := by rw [uI_j (by decide), uI_j (by decide), uI_at]
    have g2 : (mm_uI (mm_uI (mm_uI (mm_uI (mm_uI M 159 11 (nI V)) 159 12 (nI h)) 159 1 0) 159 2 (-1)) 159 3 (-1)).1 159 2 = -1 := by rw [uI_j (by decide), uI_at]
    have g3 : (mm_uI (mm_uI (mm_uI (mm_uI (mm_uI M 159 11 (nI V)) 159 12 (nI h)) 159 1 0) 159 2 (-1)) 159 3 (-1)).1 159 3 = -1 := uI_at _ _ _ _
    generalize mm_uI (mm_uI (mm_uI (mm_uI (mm_uI M 159 11 (nI V)) 159 12 (nI h)) 159 1 0) 159 2 (-1)) 159 3 (-1) = m0 at o0 g11 g12 g1 g2 g3 ⊢
    have o0' : offM wLk M m0 := offM_mono o0 (fun c j q => by unfold wLk; omega)
    have st : ∀ m, offM wLk M m → mm_G m.2.2 ∧ cN 37 N m ∧ cU r U m ∧ cSE S m := fun m o => ⟨by rw [o.2.2]; exact hG, cN_off hN o (fun c j q => by unfold wLk wS at q; omega), cU_off hU o (fun c j q => by unfold wLk wS at q; omega), cSE_off hS (offA_M o) (fun c j q => by unfold wLk wS at q; omega)⟩
    refine c_daysSeen (st m0 o0').1 (st m0 o0').2.2.2 vs ?_
    have loop : ∀ (k v : Nat) (m : mm_M), v + k = 100 → offM wLk M m → m.1 159 11 = nI V → m.1 159 12 = nI h → m.1 159 1 = nI (fitTo U N S h v).length → m.1 159 2 = pickR (fitTo U N S h v).head? → m.1 159 3 = pickR (fitTo U N S h v).getLast? → (∀ j, j < v → m.1 161 j = if fitA U N S h j then 1 else 0) → jX8_look_55 (d + 5) 37 42 (nI h) (nI V) m K (nI h) (nI (dsN S S.1)) (nI v) := by
      intro k
      induction k with
      | zero =>
        intro v m hk o p11 p12 p1 p2 p3 p4
        obtain rfl : v = 100 := by omega
        exact lX8_look_55 st37 st42 (st m o).1 (ipos (by decide) (hK m o p11 p12 ⟨p1, p2, p3, p4⟩))
      | succ k ih =>
        intro v m hk o p11 p12 p1 p2 p3 p4
        obtain ⟨w1, w2, w3, w4⟩ := st m o
        refine lX8_look_55 st37 st42 w1 (ineg (nI_ge (b := 100) (by omega) (by decide)) ?_)
        refine c_suppose w1 w2 hh (fun m1 o1 n1 => ?_)
        have ho1 : offM wLk M m1 := offM_tr o (offM_mono o1 (fun c j q => Or.inl q))
        obtain ⟨x1, x2, x3, x4⟩ := st m1 ho1
        refine c_allIsSo x1 x3 n1 vu vn hd (by omega) x4 vs (fun m2 o2 => ?_)
        have o12 := offM_tr o1 o2
        have ho2 : offM wLk M m2 := offM_tr o (offM_mono o12 (fun c j q => Or.inl q))
        have s159 : ∀ j, m2.1 159 j = m.1 159 j := fun j => o12.1 _ _ (by unfold wS; omega)
        have s161 : ∀ j, m2.1 161 j = m.1 161 j := fun j => o12.1 _ _ (by unfold wS; omega)
        have f1 := fitTo_1 (U := U) (N := N) (S := S) (h := h) (n := v)
        have hlen := fitTo_len (U := U) (N := N) (S := S) (h := h) (n := v)
        have ih := ih (v + 1)
        by_cases cf : fitA U N S h v = true
        · rw [if_pos cf]
          rw [if_pos cf] at f1
          refine ineg (by decide) (lX8_look_97 st37 st42 (st m2 ho2).1 ⟨vp_in_nI (by omega) (by decide), ineg (by decide) ?_⟩)
          have q1 : (mm_uI m2 161 v 1).1 159 1 = nI (fitTo U N S h v).length := by rw [uI_c (by decide), s159]; exact p1
          have q2 : ∀ z : Int32, (mm_uI (mm_uI m2 161 v 1) 159 1 z).1 159 2 = pickR (fitTo U N S h v).head? := fun z => by rw [uI_j (by decide), uI_c (by decide), s159]; exact p2
          rw [nI_clamp (by omega), q1, nI_1, q2, nI_1 v]
          have fin : ∀ z : Int32, z = pickR (fitTo U N S h (v + 1)).head? → jX8_look_55 (d + 5) 37 42 (nI h) (nI V) (mm_uI (mm_uI (mm_uI (mm_uI m2 161 v 1) 159 1 (nI ((fitTo U N S h v).length + 1))) 159 2 z) 159 3 (nI v)) K (nI h) (nI (dsN S S.1)) (nI (v + 1)) := fun z hz => by
            refine ih _ (by omega) (offM_tr ho2 (offM_tr (offM_tr (offM_tr (offM_uI (by unfold wLk; omega)) (offM_uI (by unfold wLk; omega))) (offM_uI (by unfold wLk; omega))) (offM_uI (by unfold wLk; omega)))) ?_ ?_ ?_ ?_ ?_ (fun j hj => ?_)
            · rw [uI_j (by decide), uI_j (by decide), uI_j (by decide), uI_c (by decide), s159]; exact p11
            · rw [uI_j (by decide), uI_j (by decide), uI_j (by decide), uI_c (by decide), s159]; exact p12
            · rw [uI_j (by decide), uI_j (by decide), uI_at, f1, List.length_append]; rfl
            · rw [uI_j (by decide), uI_at]; exact hz
            · rw [uI_at, f1, List.getLast?_append]; rfl
            · rw [uI_c (by decide), uI_c (by decide), uI_c (by decide)]
              by_cases e : j = v
              · subst e; rw [uI_at, if_pos cf]
              · rw [uI_j e, s161]; exact p4 j (by omega)
          cases hhd : (fitTo U N S h v).head? with
          | none =>
            refine ipos rfl (fin _ ?_)
            rw [f1, head_snoc, hhd]
            rfl
          | some y =>
            have hy : y < v := (fitTo_mem (List.mem_of_mem_head? hhd)).1
            refine ineg (nI_nm1 (b := y) (by omega)) (fin _ ?_)
            rw [f1, head_snoc, hhd]
        · rw [if_neg cf]
          rw [if_neg cf] at f1
          refine ipos rfl (lX8_look_97 st37 st42 (st m2 ho2).1 ⟨vp_in_nI (by omega) (by decide), ipos rfl ?_⟩)
          rw [nI_clamp (by omega), nI_1]
          rw [f1] at ih
          refine ih _ (by omega) (offM_tr ho2 (offM_uI (by unfold wLk; omega))) (by rw [uI_c (by decide), s159]; exact p11) (by rw [uI_c (by decide), s159]; exact p12) (by rw [uI_c (by decide), s159]; exact p1) (by rw [uI_c (by decide), s159]; exact p2) (by rw [uI_c (by decide), s159]; exact p3) (fun j hj => ?_)
          by_cases e : j = v
          · subst e; rw [uI_at, if_neg cf]
          · rw [uI_j e, s161]; exact p4 j (by omega)
    exact loop 100 0 m0 (by omega) o0' g11 g12 g1 g2 g3 (fun j hj => by omega)
  exact ite_go (fun c => ite_go (fun c2 => hK M offM_rf c c2 (hc c c2)) (fun _ => seek)) (fun _ => seek)
