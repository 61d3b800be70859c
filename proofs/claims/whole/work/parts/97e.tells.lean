/-! ===== tells ===== -/
def tl (f : Nat → Nat → Nat) (hs t : Nat) : Option (Nat × Nat × Nat) := (List.range' 0 t).foldl (fun acc d => (List.range' 0 hs).foldl (tellS f d) acc) none
def te (f : Nat → Nat → Nat) (t e : Nat) (acc : Option (Nat × Nat × Nat)) : Option (Nat × Nat × Nat) := (List.range' 0 e).foldl (tellS f t) acc
theorem tl_1 {f : Nat → Nat → Nat} {hs t : Nat} : tl f hs (t + 1) = te f t hs (tl f hs t) := by
  unfold tl te
  rw [List.range'_concat, List.foldl_append]
  simp only [Nat.zero_add, Nat.one_mul, List.foldl_cons, List.foldl_nil]
theorem te_1 {f : Nat → Nat → Nat} {t e : Nat} {acc : Option (Nat × Nat × Nat)} : te f t (e + 1) acc = tellS f t (te f t e acc) e := by
  unfold te
  rw [List.range'_concat, List.foldl_append]
  simp only [Nat.zero_add, Nat.one_mul, List.foldl_cons, List.foldl_nil]
def tlB (acc : Option (Nat × Nat × Nat)) : Prop := ∀ q, acc = some q → q.1 ≤ 30 ∧ q.2.1 < 7 ∧ q.2.2 ≤ 100
theorem mostA_le {U : dU} {N : dN} {S : dSE} {h t e : Nat} : mostA U N S h t e ≤ 100 := by
  have hlen := fitTo_len (U := U) (N := N) (S := S) (h := h) (n := 100)
  have hle := likeS_le (f := keyA U N h t e) (fitTo U N S h 100) (fun _ => 0, 0) 0 (fun _ => Nat.le_refl _) (Nat.le_refl _)
  unfold mostA
  omega
theorem tellS_b {f : Nat → Nat → Nat} {t e : Nat} {acc : Option (Nat × Nat × Nat)} (hf : f t e ≤ 100) (ht : t ≤ 30) (he : e < 7) (h : tlB acc) : tlB (tellS f t acc e) := by
  intro q hq
  cases acc with
  | none =>
    have hq : some (t, e, f t e) = some q := hq
    obtain rfl := Option.some.inj hq
    exact ⟨ht, he, hf⟩
  | some p =>
    have hq : (if f t e < p.2.2 then some (t, e, f t e) else some p) = some q := hq
    split at hq
    · obtain rfl := Option.some.inj hq
      exact ⟨ht, he, hf⟩
    · obtain rfl := Option.some.inj hq
      exact h p rfl
theorem daysL_D {N : dN} (hd : inI 0 999 N.1) : (if 999 - N.1 < 31 then 999 - N.1 else 31) = nI (daysL N) ∧ daysL N ≤ 31 ∧ (∀ t : Nat, t < daysL N ↔ t < 31 ∧ N.1.toInt + t < 999) := by
  unfold inI at hd
  have e : (999 - N.1).toInt = 999 - N.1.toInt := by
    rw [Int32.toInt_sub]
    exact bm32 (by show -2147483648 ≤ 999 - N.1.toInt; omega) (by show 999 - N.1.toInt < 2147483648; omega)
  have e31 : (31 : Int32).toInt = 31 := rfl
  refine ⟨?_, by unfold daysL; omega, fun t => by unfold daysL; omega⟩
  by_cases c : 999 - N.1.toInt < 31
  · rw [if_pos (i32_lt.mpr (by rw [e, e31]; exact c)), i32_eq, e, nI_toInt (by unfold daysL; omega)]
    unfold daysL; omega
  · rw [if_neg (fun z => c (by have := i32_lt.mp z; rw [e, e31] at this; exact this)), show daysL N = 31 by unfold daysL; omega]
    rfl
def wCz (c j : Nat) : Prop := wS 42 c j ∨ c = 162 ∨ c = 163 ∨ (c = 159 ∧ (j = 4 ∨ j = 5 ∨ j = 6 ∨ j = 13 ∨ j = 14))
theorem c_choose {d r h V : Nat} {U : dU} {N : dN} {S : dSE} {M : mm_M} {K : mm_M → Prop} (hG : mm_G M.2.2) (hU : cU r U M) (hN : cN 37 N M) (vu : vU U) (vn : vN U N) (hd : inI 0 999 N.1) (hh : h < 7) (hL : lookR U N S h M) (hc : M.1 159 13 = nI V → M.1 159 14 = nI h → chooseR U N S h M) (hK : ∀ m, offM wCz M m → m.1 159 13 = nI V → m.1 159 14 = nI h → chooseR U N S h m → K m) : mm_CV mX8_choose (d + 6) [.ref 159, .ref 21, .ref 37, .ref 42, .int (nI h), .int (nI V)] M K := by
  have hu7 := vu.2.1
  refine rX8_choose st37 st42 hG ?_
  have seek : jX8_choose_19 (d + 5) 37 42 (nI h) (nI V) M K (nI h) (nI V) := by
    refine lX8_choose_19 st37 st42 hG ?_
    have o0 : offM (fun c j => c = 159 ∧ (j = 4 ∨ j = 5 ∨ j = 6 ∨ j = 13 ∨ j = 14)) M (mm_uI (mm_uI (mm_uI (mm_uI (mm_uI M 159 13 (nI V)) 159 14 (nI h)) 159 4 (-1)) 159 5 (-1)) 159 6 (-1)) := offM_tr (offM_tr (offM_tr (offM_tr (offM_uI (by omega)) (offM_uI (by omega))) (offM_uI (by omega))) (offM_uI (by omega))) (offM_uI (by omega))
    have g13 : (mm_uI (mm_uI (mm_uI (mm_uI (mm_uI M 159 13 (nI V)) 159 14 (nI h)) 159 4 (-1)) 159 5 (-1)) 159 6 (-1)).1 159 13 = nI V := by rw [uI_j (by decide), uI_j (by decide), uI_j (by decide), uI_j (by decide), uI_at]
    have g14 : (mm_uI (mm_uI (mm_uI (mm_uI (mm_uI M 159 13 (nI V)) 159 14 (nI h)) 159 4 (-1)) 159 5 (-1)) 159 6 (-1)).1 159 14 = nI h := by rw [uI_j (by decide), uI_j (by decide), uI_j (by decide), uI_at]
    have g4 : (mm_uI (mm_uI (mm_uI (mm_uI (mm_uI M 159 13 (nI V)) 159 14 (nI h)) 159 4 (-1)) 159 5 (-1)) 159 6 (-1)).1 159 4 = -1 := by rw [uI_j (by decide), uI_j (by decide), uI_at]
    have g5 : (mm_uI (mm_uI (mm_uI (mm_uI (mm_uI M 159 13 (nI V)) 159 14 (nI h)) 159 4 (-1)) 159 5 (-1)) 159 6 (-1)).1 159 5 = -1 := by rw [uI_j (by decide), uI_at]
    have g6 : (mm_uI (mm_uI (mm_uI (mm_uI (mm_uI M 159 13 (nI V)) 159 14 (nI h)) 159 4 (-1)) 159 5 (-1)) 159 6 (-1)).1 159 6 = -1 := uI_at _ _ _ _
    generalize mm_uI (mm_uI (mm_uI (mm_uI (mm_uI M 159 13 (nI V)) 159 14 (nI h)) 159 4 (-1)) 159 5 (-1)) 159 6 (-1) = m0 at o0 g13 g14 g4 g5 g6 ⊢
    have o0' : offM wCz M m0 := offM_mono o0 (fun c j q => by unfold wCz; omega)
    have st : ∀ m, offM wCz M m → mm_G m.2.2 ∧ cN 37 N m ∧ cU r U m ∧ (∀ v, v < 100 → m.1 161 v = if fitA U N S h v then 1 else 0) := fun m o => ⟨by rw [o.2.2]; exact hG, cN_off hN o (fun c j q => by unfold wCz wS at q; omega), cU_off hU o (fun c j q => by unfold wCz wS at q; omega), fun v hv => by rw [o.1 _ _ (by unfold wCz wS; omega)]; exact hL.2.2.2 v hv⟩
    have g1 : m0.1 159 1 = nI (fitTo U N S h 100).length := by rw [o0.1 _ _ (by omega)]; exact hL.1
    have hlen := fitTo_len (U := U) (N := N) (S := S) (h := h) (n := 100)
    have gd : m0.1 37 0 = N.1 := (st m0 o0').2.1.1
    obtain ⟨eD, hD, hDt⟩ := daysL_D hd
    rw [g1, gd, eD]
    refine ite_go (fun c => hK m0 o0' g13 g14 ?_) (fun c => ?_)
    · have c0 : (fitTo U N S h 100).length = 0 := (nI_eq (b := 0) (by omega) (by decide)).mp c
      unfold chooseR tellA
      rw [if_pos c0]
      exact ⟨g4, g5, g6⟩
    · have c0 : ¬ (fitTo U N S h 100).length = 0 := fun z => c (by rw [z]; rfl)
      have loop : ∀ (k v : Nat) (m : mm_M), v + k = 100 → offM wCz M m → (∀ j, m.1 159 j = m0.1 159 j) → (∀ x, x < v → fitA U N S h x = true → cTa U N h (daysL N) x m) → jX8_choose_72 (d + 5) 37 42 (nI h) (nI V) m K (nI h) (nI (daysL N)) (nI v) := by
        intro k
        induction k with
        | zero =>
          intro v m hk o p159 pT
          obtain rfl : v = 100 := by omega
          refine lX8_choose_72 st37 st42 (st m o).1 (ipos (by decide) ?_)
          have days : ∀ (q t : Nat) (m1 : mm_M), t + q = daysL N → offM wCz M m1 → (∀ j, m1.2.1 162 j = m.2.1 162 j) → m1.1 159 13 = nI V → m1.1 159 14 = nI h → tlB (tl (mostA U N S h) U.2.1 t) → m1.1 159 4 = pickR ((tl (mostA U N S h) U.2.1 t).map (·.1)) → m1.1 159 5 = pickR ((tl (mostA U N S h) U.2.1 t).map (·.2.1)) → m1.1 159 6 = pickR ((tl (mostA U N S h) U.2.1 t).map (·.2.2)) → jX8_choose_117 (d + 5) 37 42 (nI h) (nI V) m1 K (nI (daysL N)) (nI t) := by
            intro q
            induction q with
            | zero =>
              intro t m1 ht o1 oL p13 p14 hb p4 p5 p6
              obtain rfl : t = daysL N := by omega
              refine lX8_choose_117 st37 st42 (st m1 o1).1 (ipos (nI_le (Nat.le_refl _) (by omega)) (hK m1 o1 p13 p14 ?_))
              unfold chooseR tellA
              rw [if_neg c0]
              exact ⟨p4, p5, p6⟩
            | succ q ih =>
              intro t m1 ht o1 oL p13 p14 hb p4 p5 p6
              have t30 : t ≤ 30 := by omega
              refine lX8_choose_117 st37 st42 (st m1 o1).1 (ineg (nI_ge (by omega) (by omega)) ?_)
              have ih := ih (t + 1)
              rw [tl_1] at ih
              generalize tl (mostA U N S h) U.2.1 t = acc at hb p4 p5 p6 ih
              have houses : ∀ (p e : Nat) (m2 : mm_M), e + p = U.2.1 → offM wCz M m2 → (∀ j, m2.2.1 162 j = m.2.1 162 j) → m2.1 159 13 = nI V → m2.1 159 14 = nI h → tlB (te (mostA U N S h) t e acc) → m2.1 159 4 = pickR ((te (mostA U N S h) t e acc).map (·.1)) → m2.1 159 5 = pickR ((te (mostA U N S h) t e acc).map (·.2.1)) → m2.1 159 6 = pickR ((te (mostA U N S h) t e acc).map (·.2.2)) → jX8_choose_127 (d + 5) 37 42 (nI h) (nI V) m2 K (nI (daysL N)) (nI t) (nI e) := by
                intro p
                induction p with
                | zero =>
                  intro e m2 he o2 oL2 r13 r14 rb r4 r5 r6
                  obtain rfl : e = U.2.1 := by omega
                  obtain ⟨w1, w2, w3, w4⟩ := st m2 o2
                  refine lX8_choose_127 st37 st42 w1 ⟨r, w3.1, w3.2.1, ?_⟩
                  rw [w3.2.2.2.1, nI_1 t]
                  exact ipos (nI_le (Nat.le_refl _) (by omega)) (ih m2 (by omega) o2 oL2 r13 r14 rb r4 r5 r6)
                | succ p ihp =>
                  intro e m2 he o2 oL2 r13 r14 rb r4 r5 r6
                  obtain ⟨w1, w2, w3, w4⟩ := st m2 o2
                  refine lX8_choose_127 st37 st42 w1 ⟨r, w3.1, w3.2.1, ?_⟩
                  rw [w3.2.2.2.1, nI_1 e]
                  refine ineg (nI_ge (by omega) (by omega)) (c_mostAlike (D := daysL N) (h := h) w1 (by omega) hD (by omega) w4 (fun v hv hf s hs => by rw [oL2]; exact pT v hv hf s hs) (fun m3 o3 => ?_))
                  have o3' : offM wCz M m3 := offM_tr o2 (offM_mono o3 (fun c j q => by unfold wCz; omega))
                  have s3 : ∀ j, m3.1 159 j = m2.1 159 j := fun j => o3.1 _ _ (by omega)
                  have mle := mostA_le (U := U) (N := N) (S := S) (h := h) (t := t) (e := e)
                  have L3 : ∀ j, m3.2.1 162 j = m.2.1 162 j := fun j => (o3.2.1 _ _ (by omega)).trans (oL2 j)
                  have ihp := ihp (e + 1)
                  rw [te_1] at ihp
                  have nb := tellS_b (f := mostA U N S h) mle t30 (show e < 7 by omega) rb
                  generalize te (mostA U N S h) t e acc = acc2 at rb r4 r5 r6 nb ihp
                  have tri : (mm_uI (mm_uI (mm_uI m3 159 4 (nI t)) 159 5 (nI e)) 159 6 (nI (mostA U N S h t e))).1 159 4 = nI t ∧ (mm_uI (mm_uI (mm_uI m3 159 4 (nI t)) 159 5 (nI e)) 159 6 (nI (mostA U N S h t e))).1 159 5 = nI e ∧ (mm_uI (mm_uI (mm_uI m3 159 4 (nI t)) 159 5 (nI e)) 159 6 (nI (mostA U N S h t e))).1 159 6 = nI (mostA U N S h t e) := ⟨by rw [uI_j (by decide), uI_j (by decide), uI_at], by rw [uI_j (by decide), uI_at], uI_at _ _ _ _⟩
                  have take : tellS (mostA U N S h) t acc2 e = some (t, e, mostA U N S h t e) → jX8_choose_127 (d + 5) 37 42 (nI h) (nI V) (mm_uI (mm_uI (mm_uI m3 159 4 (nI t)) 159 5 (nI e)) 159 6 (nI (mostA U N S h t e))) K (nI (daysL N)) (nI t) (nI (e + 1)) := fun z => by
                    rw [z] at ihp nb
                    exact ihp _ (by omega) (offM_tr o3' (offM_tr (offM_tr (offM_uI (by unfold wCz; omega)) (offM_uI (by unfold wCz; omega))) (offM_uI (by unfold wCz; omega)))) L3 (by rw [uI_j (by decide), uI_j (by decide), uI_j (by decide), s3]; exact r13) (by rw [uI_j (by decide), uI_j (by decide), uI_j (by decide), s3]; exact r14) nb tri.1 tri.2.1 tri.2.2
                  have stay : tellS (mostA U N S h) t acc2 e = acc2 → jX8_choose_127 (d + 5) 37 42 (nI h) (nI V) m3 K (nI (daysL N)) (nI t) (nI (e + 1)) := fun z => by
                    rw [z] at ihp
                    exact ihp _ (by omega) o3' L3 (by rw [s3]; exact r13) (by rw [s3]; exact r14) rb (by rw [s3]; exact r4) (by rw [s3]; exact r5) (by rw [s3]; exact r6)
                  rw [s3, r6]
                  cases acc2 with
                  | none => exact ipos rfl (take rfl)
                  | some q =>
                    obtain ⟨-, -, q3⟩ := rb q rfl
                    refine ineg (nI_nm1 (b := q.2.2) (by omega)) ?_
                    have et : tellS (mostA U N S h) t (some q) e = if mostA U N S h t e < q.2.2 then some (t, e, mostA U N S h t e) else some q := rfl
                    by_cases c : mostA U N S h t e < q.2.2
                    · rw [if_pos c] at et
                      exact ineg (nI_ge (b := q.2.2) c (by omega)) (take et)
                    · rw [if_neg c] at et
                      exact ipos (nI_le (a := q.2.2) (by omega) (by omega)) (stay et)
              exact houses U.2.1 0 m1 (by omega) o1 oL p13 p14 hb p4 p5 p6
          exact days (daysL N) 0 m (by omega) o (fun _ => rfl) (by rw [p159]; exact g13) (by rw [p159]; exact g14) (fun q hq => by cases hq) (by rw [p159]; exact g4) (by rw [p159]; exact g5) (by rw [p159]; exact g6)
        | succ k ih =>
          intro v m hk o p159 pT
          obtain ⟨w1, w2, w3, w4⟩ := st m o
          refine lX8_choose_72 st37 st42 w1 (ineg (nI_ge (b := 100) (by omega) (by decide)) ⟨vp_in_nI (by omega) (by decide), ?_⟩)
          rw [nI_clamp (by omega), w4 v (by omega), nI_1]
          by_cases cf : fitA U N S h v = true
          · rw [if_pos cf]
            refine ineg (by decide) (c_suppose w1 w2 hh (fun m1 o1 n1 => ?_))
            have ho1 : offM wCz M m1 := offM_tr o (offM_mono o1 (fun c j q => Or.inl q))
            obtain ⟨x1, x2, x3, x4⟩ := st m1 ho1
            refine c_tasteDays x1 x3 n1 vu vn (by omega) hD (fun m2 o2 t2 e2 => ?_)
            refine ih (v + 1) m2 (by omega) (offM_tr ho1 (offM_mono o2 (fun c j q => by unfold wCz; rcases q with q | q <;> simp [q]))) (fun j => ?_) (fun x hx hf => ?_)
            · rw [o2.1 _ _ (by unfold wS; omega), o1.1 _ _ (by unfold wS; omega)]; exact p159 j
            · by_cases ex : x = v
              · subst ex; exact t2
              · intro s hs
                rw [e2 _ (by omega), o1.2.1 _ _ (by unfold wS; omega)]
                exact pT x (by omega) hf s hs
          · rw [if_neg cf]
            refine ipos rfl (ih (v + 1) m (by omega) o p159 (fun x hx hf => ?_))
            by_cases ex : x = v
            · subst ex; exact absurd hf cf
            · exact pT x (by omega) hf
      exact loop 100 0 m0 (by omega) o0' (fun _ => rfl) (fun x hx => by omega)
  exact ite_go (fun c => ite_go (fun c2 => hK M offM_rf c c2 (hc c c2)) (fun _ => seek)) (fun _ => seek)
