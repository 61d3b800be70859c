/-! ===== setHate, bury, starve, cool, grow, run ===== -/
theorem cN_ext {a : Nat} {N N' : dN} {M : mm_M} (h : cN a N M) (h1 : N'.1 = N.1) (h2 : N'.2.1 = N.2.1) (h3 : ∀ h, h < 7 → N'.2.2.1 h = N.2.2.1 h) (h4 : ∀ h, h < 7 → N'.2.2.2.1 h = N.2.2.2.1 h) (h5 : ∀ h k, h < 7 → k < 7 → N'.2.2.2.2 h k = N.2.2.2.2 h k) : cN a N' M :=
  ⟨h.1.trans h1.symm, h.2.1.trans (by rw [h2]), fun k hk => (h.2.2.1 k hk).trans (h3 k hk).symm, fun k hk => (h.2.2.2.1 k hk).trans (h4 k hk).symm, fun i j hi hj => (h.2.2.2.2 i j hi hj).trans (h5 i j hi hj).symm⟩
def wH (a c _j : Nat) : Prop := c = a + 3
theorem c_setHate {d a i j : Nat} {x : Int32} {N : dN} {M : mm_M} {K : mm_M → Prop} (ha : a ∈ mm_Sts) (hG : mm_G M.2.2) (hN : cN a N M) (hi : i < 7) (hj : j < 7) (hK : ∀ m, offM (wH a) M m → cN a (setH N i j x) m → K m) : mm_CV mX9_setHate d [.ref a, .int (nI i), .int (nI j), .int x] M K := by
  refine rX9_setHate ha hG (ineg (nI_pos (by omega)) (ineg (lt7 hi) (ineg (nI_pos (by omega)) (ineg (lt7 hj) ?_))))
  rw [ix8 i (by omega) j (by omega), ix8 j (by omega) i (by omega), nI_clamp (by omega), nI_clamp (by omega)]
  refine ⟨vp_in_nI (by omega) (by decide), vp_in_nI (by omega) (by decide), hK _ (offM_tr (offM_uI rfl) (offM_uI rfl)) ?_⟩
  obtain ⟨h1, h2, h3, h4, h5⟩ := hN
  refine ⟨by rw [uI_c (by omega), uI_c (by omega)]; exact h1, by rw [uI_c (by omega), uI_c (by omega)]; exact h2, fun k hk => by rw [uI_c (by omega), uI_c (by omega)]; exact h3 k hk, fun k hk => by rw [uI_c (by omega), uI_c (by omega)]; exact h4 k hk, fun p q hp hq => ?_⟩
  show _ = (if (p = i ∧ q = j) ∨ (p = j ∧ q = i) then x else N.2.2.2.2 p q)
  by_cases c1 : 8 * p + q = 8 * j + i
  · rw [c1, uI_at, if_pos (by omega)]
  · rw [uI_j c1]
    by_cases c2 : 8 * p + q = 8 * i + j
    · rw [c2, uI_at, if_pos (by omega)]
    · rw [uI_j c2, if_neg (by omega)]; exact h5 p q hp hq
def wG (a c j : Nat) : Prop := c = 31 ∨ c = 34 ∨ (a ≤ c ∧ c ≤ a + 3 ∧ ¬ (c = a ∧ j = 2))
theorem c_bury_loop {d a h : Nat} {N : dN} {M : mm_M} {K : mm_M → Prop} {x1 : Int32} (ha : a ∈ mm_Sts) (hG : mm_G M.2.2) (hh : h < 7) : ∀ (k i : Nat) (m : mm_M), i + k = 7 → offM (wG a) M m → cN a (N.1, N.2.1, N.2.2.1, N.2.2.2.1, fun p q => if (p = h ∧ q < i) ∨ (q = h ∧ p < i) then 0 else N.2.2.2.2 p q) m → (∀ m', offM (wG a) M m' → cN a (N.1, N.2.1, N.2.2.1, N.2.2.2.1, fun p q => if (p = h ∧ q < 7) ∨ (q = h ∧ p < 7) then 0 else N.2.2.2.2 p q) m' → K m') → jX9_bury_16 d a x1 m K (nI h) (nI i) := by
  intro k
  induction k with
  | zero =>
    intro i m hi ho hN hK
    obtain rfl : i = 7 := by omega
    exact lX9_bury_16 ha (by rw [ho.2.2]; exact hG) (ipos (by decide) (hK m ho hN))
  | succ k ih =>
    intro i m hi ho hN hK
    have hGm : mm_G m.2.2 := by rw [ho.2.2]; exact hG
    refine lX9_bury_16 ha hGm (ineg (lt7 (by omega)) ?_)
    refine c_setHate ha hGm hN hh (by omega) (fun m1 o1 hN1 => ?_)
    rw [nI_1]
    refine ih (i + 1) m1 (by omega) (offM_tr ho (offM_mono o1 (fun c j q => by unfold wH at q; unfold wG; omega))) ?_ hK
    refine cN_ext hN1 rfl rfl (fun _ _ => rfl) (fun _ _ => rfl) (fun p q hp hq => ?_)
    show (if (p = h ∧ q < i + 1) ∨ (q = h ∧ p < i + 1) then (0 : Int32) else N.2.2.2.2 p q) = (if (p = h ∧ q = i) ∨ (p = i ∧ q = h) then 0 else (if (p = h ∧ q < i) ∨ (q = h ∧ p < i) then 0 else N.2.2.2.2 p q))
    by_cases c1 : (p = h ∧ q = i) ∨ (p = i ∧ q = h)
    · rw [if_pos (by omega), if_pos c1]
    · rw [if_neg c1]
      by_cases c2 : (p = h ∧ q < i) ∨ (q = h ∧ p < i)
      · rw [if_pos (by omega), if_pos c2]
      · rw [if_neg (by omega), if_neg c2]
theorem c_bury {d a h : Nat} {N : dN} {M : mm_M} {K : mm_M → Prop} (ha : a ∈ mm_Sts) (hG : mm_G M.2.2) (hN : cN a N M) (hb : N.2.1 < 128) (hh : h < 7) (hK : ∀ m, offM (wG a) M m → cN a (goneA N h) m → K m) : mm_CV mX9_bury (d + 1) [.ref a, .int (nI h)] M K := by
  refine rX9_bury ha hG ?_
  rw [hN.2.1, bit_clr _ hb _ hh]
  refine c_bury_loop (N := (N.1, N.2.1 - (if N.2.1.testBit h then 2 ^ h else 0), N.2.2.1, N.2.2.2.1, N.2.2.2.2)) (M := M) ha hG hh 7 0 _ (by omega) (offM_uI (by unfold wG; omega)) ?_ (fun m' ho' hN' => hK m' ho' ?_)
  · obtain ⟨h1, h2, h3, h4, h5⟩ := hN
    refine ⟨by rw [uI_j (by decide)]; exact h1, uI_at _ _ _ _, fun k hk => by rw [uI_c (by omega)]; exact h3 k hk, fun k hk => by rw [uI_c (by omega)]; exact h4 k hk, fun p q hp hq => ?_⟩
    rw [uI_c (by omega)]
    show _ = (if (p = h ∧ q < 0) ∨ (q = h ∧ p < 0) then (0 : Int32) else N.2.2.2.2 p q)
    rw [if_neg (by omega)]; exact h5 p q hp hq
  · refine cN_ext hN' rfl rfl (fun _ _ => rfl) (fun _ _ => rfl) (fun p q hp hq => ?_)
    show (if p = h ∨ q = h then (0 : Int32) else N.2.2.2.2 p q) = (if (p = h ∧ q < 7) ∨ (q = h ∧ p < 7) then 0 else N.2.2.2.2 p q)
    by_cases c : p = h ∨ q = h
    · rw [if_pos c, if_pos (by omega)]
    · rw [if_neg c, if_neg (by omega)]
/-- a house's code of kind w (starves, grows) -/
theorem c_houseKind {d a r h w : Nat} {U : dU} {N : dN} {M : mm_M} {K : Int32 → mm_M → Prop} (ha : a ∈ mm_Sts) (hG : mm_G M.2.2) (hU : cU r U M) (hN : cN a N M) (vu : vU U) (vn : vN U N) (hh : h < 7) (hw : w = 2 ∨ w = 4) (hK : ∀ m (x : Int32), offM wM M m → x.toInt = val (fH U N h) (U.2.2.2 w) → okz x.toInt → K x m) : mm_CV mX1_tellHouse (d + 1) [.ref 21, .ref a, .int (nI h)] M (fun m => ∃ q12 : Nat, m.2.2 21 0 = some q12 ∧ q12 ∈ mm_Rls ∧ ∃ q19 : Nat, m.2.2 21 0 = some q19 ∧ q19 ∈ mm_Rls ∧ ∃ q28 : Nat, m.2.2 21 0 = some q28 ∧ q28 ∈ mm_Rls ∧ mm_CI mX5_value (d + 1) [.ref 30, .ref (q12 + 5), .int (m.1 (q19 + 6) w), .int (m.1 (q28 + 7) w)] m K) := by
  refine c_tellHouse ha hG hU hN hh (fun m ho hf => ?_)
  have hU' : cU r U m := cU_off hU ho (fun c j q => by unfold wT at q; omega)
  refine ⟨r, hU'.1, hU'.2.1, r, hU'.1, hU'.2.1, r, hU'.1, hU'.2.1, ?_⟩
  have hoc : ∃ b, okc alH b (U.2.2.2 w) := by
    obtain ⟨-, -, -, -, -, v2, -, v4⟩ := vu
    rcases hw with rfl | rfl
    · exact ⟨_, v2⟩
    · exact ⟨_, v4⟩
  obtain ⟨b, hoc⟩ := hoc
  refine c_kind (al := alH) (by rw [ho.2.2]; exact hG) hU' (by omega) fH_all hoc (fun k v q => ⟨(hf k v q).1, (hf k v q).2, fH_ok vu vn k v q⟩) (fun g x hx => hK _ x ?_ hx (by rw [hx]; exact (okc_val hoc fH_all (fH_ok vu vn)).2.1))
  exact offM_tr (offM_mono ho (fun c j q => by unfold wT at q; unfold wM; omega)) (offM_cI (fun j => Or.inr rfl))
theorem c_starve_loop {d a r : Nat} {U : dU} {M : mm_M} {K : mm_M → Prop} (ha : a ∈ mm_Sts) (hG : mm_G M.2.2) (hU : cU r U M) (vu : vU U) : ∀ (k i : Nat) (N : dN) (m : mm_M), i + k = 7 → vN U N → offM (wG a) M m → cN a N m → (∀ m', offM (wG a) M m' → cN a ((List.range' i k).foldl (starveS U) N) m' → K m') → jX1_starve_2 (d + 1) a m K (nI i) := by
  have hs := St_at ha
  intro k
  induction k with
  | zero =>
    intro i N m hi vn ho hN hK
    obtain rfl : i = 7 := by omega
    exact lX1_starve_2 ha (by rw [ho.2.2]; exact hG) (ipos (by decide) (hK m ho hN))
  | succ k ih =>
    intro i N m hi vn ho hN hK
    have hi7 : i < 7 := by omega
    rw [List.range'_succ, List.foldl_cons] at hK
    have hGm : mm_G m.2.2 := by rw [ho.2.2]; exact hG
    refine lX1_starve_2 ha hGm (ineg (lt7 hi7) ?_)
    rw [nI_1]
    refine c_isThere (N := N) ha hGm hN.2.1 (vN_lt vu vn) hi7 ?_
    by_cases c : N.2.1.testBit i = true
    · rw [if_pos c]
      refine ineg (by decide) ?_
      have hUm : cU r U m := cU_off hU ho (fun c j q => by unfold wG at q; omega)
      refine c_houseKind (w := 2) ha hGm hUm hN vu vn hi7 (Or.inl rfl) (fun m1 x o1 hx _ => ?_)
      have ho1 : offM (wG a) M m1 := offM_tr ho (offM_mono o1 (fun c j q => by unfold wM at q; unfold wG; omega))
      have hN1 : cN a N m1 := cN_off hN o1 (fun c j q => by unfold wM at q; omega)
      by_cases z : x = 0
      · refine ipos z ?_
        have hS : starveS U N i = N := by
          unfold starveS starvesA
          rw [← hx, z]
          simp
        rw [hS] at hK
        exact ih (i + 1) N m1 (by omega) vn ho1 hN1 hK
      · refine ineg z ?_
        have hS : starveS U N i = goneA N i := by
          unfold starveS starvesA
          rw [← hx, if_pos]
          simp only [c, Bool.true_and, decide_eq_true_eq]
          exact fun q => z (i32_eq.mpr q)
        rw [hS] at hK
        refine c_bury ha (by rw [ho1.2.2]; exact hG) hN1 (vN_lt vu vn) hi7 (fun m2 o2 hN2 => ?_)
        exact ih (i + 1) _ m2 (by omega) (goneA_v vu vn hi7) (offM_tr ho1 o2) hN2 hK
    · rw [if_neg c]
      refine ipos rfl ?_
      have hS : starveS U N i = N := by unfold starveS; rw [if_neg]; simp [c]
      rw [hS] at hK
      exact ih (i + 1) N m (by omega) vn ho hN hK
theorem c_starve {d a r : Nat} {U : dU} {N : dN} {M : mm_M} {K : mm_M → Prop} (ha : a ∈ mm_Sts) (hG : mm_G M.2.2) (hU : cU r U M) (hN : cN a N M) (vu : vU U) (vn : vN U N) (hK : ∀ m, offM (wG a) M m → cN a (starveA U N) m → K m) : mm_CV mX1_starve (d + 2) [.ref 21, .ref a] M K :=
  rX1_starve ha hG (c_starve_loop ha hG hU vu 7 0 N M (by omega) vn offM_rf hN hK)
theorem c_grow_loop {d a r : Nat} {U : dU} {M : mm_M} {K : mm_M → Prop} (ha : a ∈ mm_Sts) (hG : mm_G M.2.2) (hU : cU r U M) (vu : vU U) : ∀ (k i : Nat) (N : dN) (m : mm_M), i + k = 7 → vN U N → offM (wG a) M m → cN a N m → (∀ m', offM (wG a) M m' → cN a ((List.range' i k).foldl (growS U) N) m' → K m') → jX1_grow_2 (d + 1) a m K (nI i) := by
  have hs := St_at ha
  intro k
  induction k with
  | zero =>
    intro i N m hi vn ho hN hK
    obtain rfl : i = 7 := by omega
    exact lX1_grow_2 ha (by rw [ho.2.2]; exact hG) (ipos (by decide) (hK m ho hN))
  | succ k ih =>
    intro i N m hi vn ho hN hK
    have hi7 : i < 7 := by omega
    rw [List.range'_succ, List.foldl_cons] at hK
    have hGm : mm_G m.2.2 := by rw [ho.2.2]; exact hG
    refine lX1_grow_2 ha hGm (ineg (lt7 hi7) ?_)
    rw [nI_1]
    refine c_isThere (N := N) ha hGm hN.2.1 (vN_lt vu vn) hi7 ?_
    by_cases c : N.2.1.testBit i = true
    · rw [if_pos c]
      refine ineg (by decide) ?_
      have hUm : cU r U m := cU_off hU ho (fun c j q => by unfold wG at q; omega)
      refine c_houseKind (w := 4) ha hGm hUm hN vu vn hi7 (Or.inr rfl) (fun m1 x o1 hx hok => ?_)
      have ho1 : offM (wG a) M m1 := offM_tr ho (offM_mono o1 (fun c j q => by unfold wM at q; unfold wG; omega))
      have hN1 : cN a N m1 := cN_off hN o1 (fun c j q => by unfold wM at q; omega)
      refine ⟨vp_in_nI hi7 (by decide), c_bounded (by rw [ho1.2.2]; exact hG) ⟨vp_in_nI hi7 (by decide), ?_⟩⟩
      rw [nI_clamp (by omega), hN1.2.2.1 i hi7]
      have hsum : (N.2.2.1 i + x).toInt = (N.2.2.1 i).toInt + val (fH U N i) (U.2.2.2 4) := by
        rw [i32_add (vn.2.2.1 i) (by omega) (y := x) (c := -1000000) (d := 1000000) hok (by omega), hx]
      rw [hsum]
      have hS : growS U N i = (N.1, N.2.1, setF N.2.2.1 i (bnd ((N.2.2.1 i).toInt + val (fH U N i) (U.2.2.2 4))), N.2.2.2.1, N.2.2.2.2) := by
        unfold growS; rw [if_pos c]
      have hv := growS_v (h := i) vn
      rw [hS] at hK hv
      exact ih (i + 1) _ _ (by omega) hv (offM_tr ho1 (offM_uI (by unfold wG; omega))) (cN_uF hN1) hK
    · rw [if_neg c]
      refine ipos rfl ?_
      have hS : growS U N i = N := by unfold growS; rw [if_neg c]
      rw [hS] at hK
      exact ih (i + 1) N m (by omega) vn ho hN hK
theorem c_grow {d a r : Nat} {U : dU} {N : dN} {M : mm_M} {K : mm_M → Prop} (ha : a ∈ mm_Sts) (hG : mm_G M.2.2) (hU : cU r U M) (hN : cN a N M) (vu : vU U) (vn : vN U N) (hK : ∀ m, offM (wG a) M m → cN a (growA U N) m → K m) : mm_CV mX1_grow (d + 2) [.ref 21, .ref a] M K :=
  rX1_grow ha hG (c_grow_loop ha hG hU vu 7 0 N M (by omega) vn offM_rf hN hK)
theorem pickR_eq {o : Option Nat} {j : Nat} (ho : ∀ b, o = some b → b < 7) (hj : j < 7) : pickR o = nI j ↔ o = some j := by
  cases o with
  | none =>
    refine ⟨fun q => ?_, fun q => by cases q⟩
    exfalso
    have q : (-1 : Int32) = nI j := q
    exact nI_pos (n := j) (by omega) (by rw [← q]; decide)
  | some b =>
    have hb := ho b rfl
    show nI b = nI j ↔ _
    rw [nI_eq (by omega) (by omega)]
    exact ⟨fun q => by rw [q], fun q => Option.some.inj q⟩
def vB (bt : Nat → Option (Nat × Int32)) : Prop := ∀ e q, bt e = some q → q.1 < 7 ∧ inI 0 99 q.2
theorem c_cool_inner {d a r i : Nat} {U : dU} {M : mm_M} {K : mm_M → Prop} {bt : Nat → Option (Nat × Int32)} (ha : a ∈ mm_Sts) (hG : mm_G M.2.2) (hU : cU r U M) (vu : vU U) (hi7 : i < 7) (h35 : ∀ e, e < 7 → M.1 35 e = bkR (bt e)) (vb : vB bt) : ∀ (k j : Nat) (N : dN) (m : mm_M), j + k = 7 → i < j → vN U N → offM (wG a) M m → m.1 31 13 = N.1 → cN a N m → (∀ m', offM (wG a) M m' → m'.1 31 13 = N.1 → cN a ((List.range' j k).foldl (coolS U bt i) N) m' → jX1_cool_16 (d + 1) a m' K (nI (i + 1))) → jX1_cool_26 (d + 1) a m K (nI i) (nI j) := by
  have hs := St_at ha
  intro k
  induction k with
  | zero =>
    intro j N m hj hij vn ho h13 hN hK
    obtain rfl : j = 7 := by omega
    refine lX1_cool_26 ha (by rw [ho.2.2]; exact hG) (ipos (by decide) ?_)
    rw [nI_1]
    exact hK m ho h13 hN
  | succ k ih =>
    intro j N m hj hij vn ho h13 hN hK
    have hj7 : j < 7 := by omega
    rw [List.range'_succ, List.foldl_cons] at hK
    have hGm : mm_G m.2.2 := by rw [ho.2.2]; exact hG
    refine lX1_cool_26 ha hGm (ineg (lt7 hj7) ?_)
    rw [ix8 i (by omega) j (by omega), nI_clamp (n := 8 * i + j) (by omega), nI_clamp (n := i) (by omega), nI_clamp (n := j) (by omega), hN.2.2.2.2 i j hi7 hj7, nI_1]
    refine ⟨vp_in_nI (by omega) (by decide), ?_⟩
    by_cases c : N.2.2.2.2 i j ≤ 0
    · refine ipos c ?_
      have hS : coolS U bt i N j = N := by unfold coolS; rw [if_neg (Int32.not_lt.mpr c)]
      rw [hS] at hK
      exact ih (j + 1) N m (by omega) (by omega) vn ho h13 hN hK
    · refine ineg c ⟨vp_in_nI hi7 (by decide), ?_⟩
      have hpos : 0 < N.2.2.2.2 i j := Int32.not_le.mp c
      have t6 : (6 : Int32).toNatClampNeg = 6 := rfl
      rw [t6]
      have o1 : offM (fun c j => c = 31 ∧ j = 6) m (mm_uI m 31 6 (N.2.2.2.2 i j)) := offM_uI ⟨rfl, rfl⟩
      have f6 : (mm_uI m 31 6 (N.2.2.2.2 i j)).1 31 6 = N.2.2.2.2 i j := uI_at _ _ _ _
      generalize mm_uI m 31 6 (N.2.2.2.2 i j) = m1 at o1 f6 ⊢
      have r35 : ∀ e, e < 7 → m1.1 35 e = bkR (bt e) := fun e he => by rw [o1.1 35 e (by omega), ho.1 35 e (by unfold wG; omega)]; exact h35 e he
      have key : ∀ u0 u1 : Int32, u1 + u0 = loavesOf bt i j → jX1_cool_101 (d + 1) a m1 K (nI i) (nI j) u0 u1 15 := by
        intro u0 u1 hu
        have t15 : (15 : Int32).toNatClampNeg = 15 := rfl
        have hG1 : mm_G m1.2.2 := by rw [o1.2.2]; exact hGm
        refine lX1_cool_101 ha hG1 ⟨vp_in_nI (n := 15) (N := 24) (by decide) (by decide), ?_⟩
        rw [hu, t15]
        have o2 : offM (fun c j => c = 31 ∧ j = 15) m1 (mm_uI m1 31 15 (loavesOf bt i j)) := offM_uI ⟨rfl, rfl⟩
        have f15 : (mm_uI m1 31 15 (loavesOf bt i j)).1 31 15 = loavesOf bt i j := uI_at _ _ _ _
        generalize mm_uI m1 31 15 (loavesOf bt i j) = m2 at o2 f15 ⊢
        have ho2 : offM (wG a) M m2 := offM_tr (offM_tr ho (offM_mono o1 (fun c j q => by unfold wG; omega))) (offM_mono o2 (fun c j q => by unfold wG; omega))
        have hG2 : mm_G m2.2.2 := by rw [ho2.2.2]; exact hG
        have hU2 : cU r U m2 := cU_off hU ho2 (fun c j q => by unfold wG at q; omega)
        have hN2 : cN a N m2 := cN_off (cN_off hN o1 (fun c j q => by omega)) o2 (fun c j q => by omega)
        refine ⟨r, hU2.1, hU2.2.1, r, hU2.1, hU2.2.1, r, hU2.1, hU2.2.1, ?_⟩
        have hl : okz (loavesOf bt i j).toInt := by
          unfold loavesOf
          by_cases q1 : (bt i).map (·.1) = some j <;> by_cases q2 : (bt j).map (·.1) = some i <;> simp only [q1, q2, if_true, if_false] <;> unfold okz <;> decide
        refine c_kind (w := 3) (al := alC) (F := fC N.1 (N.2.2.2.2 i j) (loavesOf bt i j)) hG2 hU2 (by decide) fC_all vu.2.2.2.2.2.2.1 (fun k v q => ?_) (fun g x hx => ?_)
        · refine ⟨?_, ?_, fC_ok (okz_of vn.1 (by omega) (by omega)) (okz_of (vn.2.2.2.2.1 i j) (by omega) (by omega)) hl k v q⟩
          · rcases fC_of q with ⟨rfl, -⟩ | ⟨rfl, -⟩ | ⟨rfl, -⟩ <;> decide
          · rcases fC_of q with ⟨rfl, rfl⟩ | ⟨rfl, rfl⟩ | ⟨rfl, rfl⟩
            · rw [o2.1 31 13 (by omega), o1.1 31 13 (by omega), h13]
            · rw [o2.1 31 6 (by omega), f6]
            · rw [f15]
        · have o3 : offM (fun c _ => c = 34) m2 (mm_cI m2 34 g) := offM_cI (fun _ => rfl)
          have g13 : (mm_cI m2 34 g).1 31 13 = N.1 := by rw [o3.1 31 13 (by omega), o2.1 31 13 (by omega), o1.1 31 13 (by omega), h13]
          generalize mm_cI m2 34 g = m3 at o3 g13 ⊢
          have ho3 : offM (wG a) M m3 := offM_tr ho2 (offM_mono o3 (fun c j q => by unfold wG; omega))
          have hG3 : mm_G m3.2.2 := by rw [ho3.2.2]; exact hG
          refine c_bounded hG3 (c_setHate ha hG3 (cN_off hN2 o3 (fun c j q => by omega)) hi7 hj7 (fun m4 o4 hN4 => ?_))
          rw [hx] at hN4
          have hS : coolS U bt i N j = setH N i j (bnd (val (fC N.1 (N.2.2.2.2 i j) (loavesOf bt i j)) (U.2.2.2 3))) := by unfold coolS; rw [if_pos hpos]
          have hv := coolS_v (U := U) (bt := bt) (a := i) (b := j) vn
          rw [hS] at hK hv
          rw [nI_1]
          exact ih (j + 1) _ m4 (by omega) (by omega) hv (offM_tr ho3 (offM_mono o4 (fun c j q => by unfold wH at q; unfold wG; omega))) (by rw [o4.1 31 13 (by unfold wH; omega)]; exact g13) hN4 hK
      have e1 : (m1.1 35 i = nI j) ↔ (bt i).map (·.1) = some j := by
        rw [r35 i hi7]
        refine pickR_eq (fun b hb => ?_) hj7
        obtain ⟨q, hq, rfl⟩ := Option.map_eq_some_iff.mp hb
        exact (vb _ _ hq).1
      have e2 : (m1.1 35 j = nI i) ↔ (bt j).map (·.1) = some i := by
        rw [r35 j hj7]
        refine pickR_eq (fun b hb => ?_) hi7
        obtain ⟨q, hq, rfl⟩ := Option.map_eq_some_iff.mp hb
        exact (vb _ _ hq).1
      by_cases q1 : m1.1 35 i = nI j
      · refine ipos q1 ⟨vp_in_nI hj7 (by decide), ?_⟩
        have q1' := e1.mp q1
        by_cases q2 : m1.1 35 j = nI i
        · exact ipos q2 (key 1 1 (by unfold loavesOf; rw [if_pos q1', if_pos (e2.mp q2)]))
        · exact ineg q2 (key 0 1 (by unfold loavesOf; rw [if_pos q1', if_neg (mt e2.mpr q2)]))
      · refine ineg q1 ⟨vp_in_nI hj7 (by decide), ?_⟩
        have q1' := mt e1.mpr q1
        by_cases q2 : m1.1 35 j = nI i
        · exact ipos q2 (key 1 0 (by unfold loavesOf; rw [if_neg q1', if_pos (e2.mp q2)]))
        · exact ineg q2 (key 0 0 (by unfold loavesOf; rw [if_neg q1', if_neg (mt e2.mpr q2)]))
theorem c_cool_outer {d a r : Nat} {U : dU} {M : mm_M} {K : mm_M → Prop} {bt : Nat → Option (Nat × Int32)} (ha : a ∈ mm_Sts) (hG : mm_G M.2.2) (hU : cU r U M) (vu : vU U) (h35 : ∀ e, e < 7 → M.1 35 e = bkR (bt e)) (vb : vB bt) : ∀ (k i : Nat) (N : dN) (m : mm_M), i + k = 7 → vN U N → offM (wG a) M m → m.1 31 13 = N.1 → cN a N m → (∀ m', offM (wG a) M m' → cN a ((List.range' i k).foldl (fun N a => (List.range' (a + 1) (6 - a)).foldl (coolS U bt a) N) N) m' → K m') → jX1_cool_16 (d + 1) a m K (nI i) := by
  intro k
  induction k with
  | zero =>
    intro i N m hi vn ho h13 hN hK
    obtain rfl : i = 7 := by omega
    exact lX1_cool_16 ha (by rw [ho.2.2]; exact hG) (ipos (by decide) (hK m ho hN))
  | succ k ih =>
    intro i N m hi vn ho h13 hN hK
    have hi7 : i < 7 := by omega
    rw [List.range'_succ, List.foldl_cons] at hK
    refine lX1_cool_16 ha (by rw [ho.2.2]; exact hG) (ineg (lt7 hi7) ?_)
    rw [nI_1]
    refine c_cool_inner ha hG hU vu hi7 h35 vb (6 - i) (i + 1) N m (by omega) (by omega) vn ho h13 hN (fun m' ho' h13' hN' => ?_)
    have hv : vN U ((List.range' (i + 1) (6 - i)).foldl (coolS U bt i) N) := fold_v (P := vN U) (fun _ _ h => coolS_v h) _ _ vn
    have hd : ((List.range' (i + 1) (6 - i)).foldl (coolS U bt i) N).1 = N.1 := fold_v (P := fun z : dN => z.1 = N.1) (fun z b h => (coolS_d (U := U) (bt := bt) (N := z) (a := i) (b := b)).1.trans h) _ _ rfl
    exact ih (i + 1) _ m' (by omega) hv ho' (by rw [hd]; exact h13') hN' hK
theorem c_cool {d a r : Nat} {U : dU} {N : dN} {M : mm_M} {K : mm_M → Prop} {bt : Nat → Option (Nat × Int32)} (ha : a ∈ mm_Sts) (hG : mm_G M.2.2) (hU : cU r U M) (hN : cN a N M) (vu : vU U) (vn : vN U N) (h35 : ∀ e, e < 7 → M.1 35 e = bkR (bt e)) (vb : vB bt) (hK : ∀ m, offM (wG a) M m → cN a (coolA U bt N) m → K m) : mm_CV mX1_cool (d + 2) [.ref 21, .ref a] M K := by
  have hs := St_at ha
  refine rX1_cool ha hG ?_
  have t13 : (13 : Int32).toNatClampNeg = 13 := rfl
  rw [t13, hN.1]
  have o1 : offM (fun c j => c = 31) M (mm_uI M 31 13 N.1) := offM_uI rfl
  exact c_cool_outer ha hG hU vu h35 vb 7 0 N _ (by omega) vn (offM_mono o1 (fun c j q => by unfold wG; omega)) (uI_at _ _ _ _) (cN_off hN o1 (fun c j q => by omega)) hK
/-! a day -/
theorem serveA_b {U : dU} {N : dN} {rest : Nat} : vB (serveA U N rest).2.2.1 := by
  refine fold_v (P := fun S : dS => vB S.2.2.1) (fun S i h => ?_) _ _ (fun e q h => by cases h)
  show vB (serveS U S i).2.2.1
  unfold serveS
  by_cases c : S.1.2.1.testBit i = true
  · rw [if_pos c]
    cases hp : pickA U S.1 i S.2.1 with
    | none => exact h
    | some b =>
      intro e q hq
      have hq : setF S.2.2.1 i (some (b, tasteA U S.1 b i)) e = some q := hq
      unfold setF at hq
      by_cases ce : e = i
      · rw [if_pos ce] at hq; cases hq; exact ⟨(pickA_some hp).1, bnd_in _⟩
      · rw [if_neg ce] at hq; exact h e q hq
  · rw [if_neg c]; exact h
def nextD (x : Int32) : Int32 := if 999 ≤ x then x else x + 1
/-- a day as the class has it: its number grows up to the last -/
def dayC (U : dU) (N : dN) (rest : Nat) : dN := (nextD N.1, (dayA U N rest).2)
/-- what a run leaves: the moment, the bakers, the tastes, how many loaves, what is kept -/
def cR (a : Nat) (t : Bool) (U : dU) (N : dN) (rest : Nat) (M m : mm_M) : Prop := offM (wS a) M m ∧ cN a (dayC U N rest) m ∧ (∀ e, e < 7 → m.1 35 e = bkR ((serveA U N rest).2.2.1 e)) ∧ (∀ e, e < 7 → m.1 36 e = taR t ((serveA U N rest).2.2.1 e)) ∧ m.1 21 4 = nI (serveA U N rest).2.2.2.length ∧ (∀ L B, B + 7 < 2 ^ 30 → cK a L B M → cK a (keptA t L N.1 (serveA U N rest).2.2.2) (B + 7) m)
theorem c_run {d a r rest : Nat} {U : dU} {N : dN} {M : mm_M} {K : mm_M → Prop} {t : Bool} (ha : a ∈ mm_Sts) (hG : mm_G M.2.2) (hU : cU r U M) (hN : cN a N M) (vu : vU U) (vn : vN U N) (hr : rest < 128) (hK : ∀ m, cR a t U N rest M m → K m) : mm_CV mX1_run (d + 4) [.ref 21, .ref a, .int (nI rest), .int (if t then 1 else 0)] M K := by
  have hs := St_at ha
  refine rX1_run ha hG ?_
  refine c_serve ha hG hU hN vu vn hr (fun m1 h1 => ?_)
  obtain ⟨o1, n1, b35, b36, -, b21, bk⟩ := h1
  have g1 : mm_G m1.2.2 := by rw [o1.2.2]; exact hG
  have u1 : cU r U m1 := cU_off hU o1 (fun c j q => by unfold wS at q; omega)
  have v1 := serveA_v (rest := rest) vu vn
  refine c_starve ha g1 u1 n1 vu v1 (fun m2 o2 n2 => ?_)
  have g2 : mm_G m2.2.2 := by rw [o2.2.2]; exact g1
  have u2 : cU r U m2 := cU_off u1 o2 (fun c j q => by unfold wG at q; omega)
  have v2 := starveA_v vu v1
  refine c_cool (bt := (serveA U N rest).2.2.1) ha g2 u2 n2 vu v2 (fun e he => by rw [o2.1 35 e (by unfold wG; omega)]; exact b35 e he) serveA_b (fun m3 o3 n3 => ?_)
  have g3 : mm_G m3.2.2 := by rw [o3.2.2]; exact g2
  have u3 : cU r U m3 := cU_off u2 o3 (fun c j q => by unfold wG at q; omega)
  have v3 := coolA_v (bt := (serveA U N rest).2.2.1) v2
  refine c_grow ha g3 u3 n3 vu v3 (fun m4 o4 n4 => ?_)
  have n4 : cN a (dayA U N rest) m4 := n4
  have o24 : offM (wG a) m1 m4 := offM_tr (offM_tr o2 o3) o4
  have ho : offM (wS a) M m4 := offM_tr o1 (offM_mono o24 (fun c j q => by unfold wG at q; unfold wS; omega))
  have hd : (dayA U N rest).1 = N.1 := dayA_d
  have fin : ∀ m5, offM (fun c j => c = a ∧ j = 0) m4 m5 → m5.1 a 0 = nextD N.1 → K m5 := by
    intro m5 o5 e0
    refine hK m5 ⟨offM_tr ho (offM_mono o5 (fun c j q => by unfold wS; omega)), ?_, fun e he => ?_, fun e he => ?_, ?_, fun L B hB h => ?_⟩
    · exact ⟨e0, by rw [o5.1 a 1 (by omega)]; exact n4.2.1, fun h hh => by rw [o5.1 _ _ (by omega)]; exact n4.2.2.1 h hh, fun h hh => by rw [o5.1 _ _ (by omega)]; exact n4.2.2.2.1 h hh, fun h k hh hk => by rw [o5.1 _ _ (by omega)]; exact n4.2.2.2.2 h k hh hk⟩
    · rw [o5.1 35 e (by omega), o24.1 35 e (by unfold wG; omega)]; exact b35 e he
    · rw [o5.1 36 e (by omega), o24.1 36 e (by unfold wG; omega)]; exact b36 e he
    · rw [o5.1 21 4 (by omega), o24.1 21 4 (by unfold wG; omega)]; exact b21
    · have := bk L B hB h
      rw [serveA_d.1] at this
      exact cK_off (cK_off this o24 (fun c j q => by unfold wG at q; omega)) o5 (fun c j q => by omega)
  rw [n4.1, hd]
  by_cases c : 999 ≤ N.1
  · exact ipos c (fin m4 offM_rf (by rw [n4.1, hd, nextD, if_pos c]))
  · exact ineg c (fin _ (offM_uI ⟨rfl, rfl⟩) (by rw [uI_at, nextD, if_neg c]))
