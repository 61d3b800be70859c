/-! ===== the reference reads a rule ===== -/
theorem m_kindOfD {d k : Nat} {M : mm_M} {K : Int32 → mm_M → Prop} (hG : mm_G M.2.2) (hk : k < 5) (hK : K (nI (tkOf k)) M) : mm_CI mX12_kindOf d [.int (nI k)] M K := by
  refine rX12_kindOf hG ?_
  match k, hk with
  | 0, _ => exact ineg (by decide) hK
  | 1, _ => exact ineg (by decide) hK
  | 2, _ => exact ipos (by decide) (ineg (by decide) hK)
  | 3, _ => exact ipos (by decide) (ipos rfl hK)
  | 4, _ => exact ipos (by decide) (ineg (by decide) hK)
/-- the codes are laid behind those told before -/
theorem m_95 {d k L : Nat} {x1 x2 : Int32} {C : List Nat} {M : mm_M} {K : mm_M → Prop} (hG : mm_G M.2.2) (hk : k < 5) (hL : L + C.length ≤ 1600) (h105 : M.1 164 105 = nI C.length) (hc : ∀ (j c : Nat), C[j]? = some c → M.1 239 j = nI c) (h46 : M.1 164 46 = nI L) (hK : ∀ m, offM (fun c j => (c = 198 ∧ L ≤ j ∧ j < 1600) ∨ (c = 164 ∧ j = 46) ∨ (c = 197 ∧ j = k)) M m → m.1 164 46 = nI (L + C.length) → m.1 197 k = nI (L + C.length) → (∀ (j c : Nat), C[j]? = some c → m.1 198 (L + j) = nI c) → K m) : jX12_codesTold_95 d x1 x2 M K (nI k) 0 := by
  have loop : ∀ (f n : Nat) (m : mm_M), n + f = C.length → offM (fun c j => (c = 198 ∧ L ≤ j ∧ j < 1600) ∨ (c = 164 ∧ j = 46)) M m → m.1 164 46 = nI (L + n) → (∀ (j c : Nat), j < n → C[j]? = some c → m.1 198 (L + j) = nI c) → jX12_codesTold_95 d x1 x2 m K (nI k) (nI n) := by
    intro f
    induction f with
    | zero =>
      intro n m hn o e46 ec
      obtain rfl : n = C.length := by omega
      refine lX12_codesTold_95 (by rw [o.2.2]; exact hG) ?_
      rw [o.1 164 105 (by omega), h105, e46, nI_clamp (by omega)]
      have o2 : offM (fun c j => c = 197 ∧ j = k) m (mm_uI m 197 k (nI (L + C.length))) := offM_uI ⟨rfl, rfl⟩
      refine ipos (nI_le (Nat.le_refl _) (by omega)) ⟨vp_in_nI (by omega) (by decide), hK _ (offM_tr (offM_mono o (fun c j z => by omega)) (offM_mono o2 (fun c j z => by omega))) (by rw [o2.1 _ _ (by omega)]; exact e46) (uI_at _ _ _ _) (fun j c hj => by rw [o2.1 _ _ (by omega)]; exact ec j c (List.getElem?_eq_some_iff.mp hj).1 hj)⟩
    | succ f ih =>
      intro n m hn o e46 ec
      have hlt : n < C.length := by omega
      have ex : C[n]? = some (C[n]'hlt) := List.getElem?_eq_getElem hlt
      refine lX12_codesTold_95 (by rw [o.2.2]; exact hG) ?_
      rw [o.1 164 105 (by omega), h105, e46, nI_clamp (n := n) (by omega), nI_clamp (n := L + n) (by omega), uI_c (c := 164) (by decide), e46, nI_1, nI_1, o.1 239 n (by omega), hc n _ ex]
      refine ineg (nI_ge (by omega) (by omega)) ⟨vp_in_nI (by omega) (by decide), vp_in_nI (by omega) (by decide), ih (n + 1) _ (by omega) (offM_tr o (offM_tr (offM_uI (by omega)) (offM_uI (by omega)))) (uI_at _ _ _ _) (fun j c hj hjc => ?_)⟩
      rw [uI_c (c := 198) (by decide)]
      by_cases e : j = n
      · subst e
        rw [ex] at hjc
        rw [uI_at, Option.some.inj hjc]
      · rw [uI_j (by omega)]; exact ec j c (by omega) hjc
  exact loop C.length 0 M (by omega) offM_rf h46 (fun j c hj => by omega)
set_option maxHeartbeats 2000000 in
theorem m_codesD {T : dT} {q i k d : Nat} {R : dR} {r : dZ} {M0 M : mm_M} {K : mm_M → Prop} (hG : mm_G M.2.2) (oM : offM wMd M0 M) (hD : mDs T (nxt T q) R i M) (v : vR T q R) (hk : k < 5) (hr : ruleB T k q R r) (hK : stK r (fun q' R' => ∀ m, offM wMd M0 m → mDs T q' R' i m → K m) (fun k p => ∀ m, offM wMd M0 m → mXs k p m → K m)) : mm_CV mX12_codesTold (d + 14) [.ref 164, .int (nI k), .int (nI q)] M K := by
  obtain ⟨v1, v2, v3, v4, v5, v6, v7, v8, v9, v10, v11, v12, v13, hq⟩ := id v
  have hbad : M.1 164 5 = 0 := by obtain ⟨p, h⟩ := hD.1; exact h.2.1
  have hn : T.2 ≤ 1600 := by obtain ⟨p, h⟩ := hD.1; exact h.1.2.1
  have n1 := nxt_b hq
  refine rX12_codesTold hG (ipos hbad ?_)
  rw [nI_clamp (by omega)]
  refine ⟨vp_in_nI (by omega) (by decide), ?_⟩
  rcases hr with ⟨hs, rfl⟩ | ⟨hnone, hr⟩
  · obtain ⟨C, hC⟩ := Option.ne_none_iff_exists'.mp hs
    obtain ⟨f, e, q1, q2, q3, q4, q5⟩ := (hD.2.2.1.2.2.2.2.2.1 k hk).2 C hC
    rw [q1]
    refine ineg (nI_nm1 (b := f) (by omega)) (m_failP (k := 5) (p := q) hG hbad (by omega) (by omega) (fun m o x => lX12_codesTold_23 (by rw [o.2.2]; exact hG) (ineg (mXn0 x) (hK m (offM_tr oM (wLx_D o)) x))))
  · rw [(hD.2.2.1.2.2.2.2.2.1 k hk).1 hnone]
    refine ipos rfl (lX12_codesTold_23 hG (ipos hbad (m_kindOfD hG hk ?_)))
    have o1 : offM (fun c j => c = 164 ∧ (j = 49 ∨ j = 105 ∨ j = 107 ∨ j = 108 ∨ j = 109)) M (mm_uI (mm_uI (mm_uI (mm_uI (mm_uI M 164 49 (nI (tkOf k))) 164 105 0) 164 107 0) 164 108 0) 164 109 0) := offM_tr (offM_tr (offM_tr (offM_tr (offM_uI (by omega)) (offM_uI (by omega))) (offM_uI (by omega))) (offM_uI (by omega))) (offM_uI (by omega))
    have f49 : (mm_uI (mm_uI (mm_uI (mm_uI (mm_uI M 164 49 (nI (tkOf k))) 164 105 0) 164 107 0) 164 108 0) 164 109 0).1 164 49 = nI (tkOf k) := by rw [uI_j (by decide), uI_j (by decide), uI_j (by decide), uI_j (by decide), uI_at]
    have f105 : (mm_uI (mm_uI (mm_uI (mm_uI (mm_uI M 164 49 (nI (tkOf k))) 164 105 0) 164 107 0) 164 108 0) 164 109 0).1 164 105 = nI 0 := by rw [uI_j (by decide), uI_j (by decide), uI_j (by decide), uI_at]; rfl
    have f107 : (mm_uI (mm_uI (mm_uI (mm_uI (mm_uI M 164 49 (nI (tkOf k))) 164 105 0) 164 107 0) 164 108 0) 164 109 0).1 164 107 = nI 0 := by rw [uI_j (by decide), uI_j (by decide), uI_at]; rfl
    have f108 : (mm_uI (mm_uI (mm_uI (mm_uI (mm_uI M 164 49 (nI (tkOf k))) 164 105 0) 164 107 0) 164 108 0) 164 109 0).1 164 108 = nI 0 := by rw [uI_j (by decide), uI_at]; rfl
    have f109 : (mm_uI (mm_uI (mm_uI (mm_uI (mm_uI M 164 49 (nI (tkOf k))) 164 105 0) 164 107 0) 164 108 0) 164 109 0).1 164 109 = nI 0 := uI_at _ _ _ _
    generalize mm_uI (mm_uI (mm_uI (mm_uI (mm_uI M 164 49 (nI (tkOf k))) 164 105 0) 164 107 0) 164 108 0) 164 109 0 = m1 at o1 f49 f105 f107 f108 f109 ⊢
    have hG1 : mm_G m1.2.2 := by rw [o1.2.2]; exact hG
    have ht3 := tkOf_lt k
    have s1 : mQs T (tkOf k) (nxt T q) [] [] [] 0 m1 := ⟨mLx_off hD.1 o1 (fun c j z => by omega), f105, fun j c hj => (by cases hj), f107, trivial, f109, f108, f49, by omega, by omega, mWd_m hD.2.1 o1 (fun c j z => by omega), fun v hv => (by cases hv)⟩
    have st : ∀ m, offM wQs m1 m → offM wMd M0 m ∧ mm_G m.2.2 := fun m o => ⟨offM_tr (offM_tr oM (offM_mono o1 (fun c j z => by unfold wMd wQs wLx; omega))) (offM_mono o (fun c j z => Or.inl z)), by rw [o.2.2]; exact hG1⟩
    -- the codes are kept
    have keep : ∀ (q' : Nat) (C : List Nat) (m : mm_M), r = .inl (q', setCo R k C) → q' ≤ T.2 → C.length ≤ q' - nxt T q → nxt T q < q' → offM wQs m1 m → mQs T (tkOf k) q' C [] [] 0 m → (if (m.1 164 5) = 0 then (vp_in (nI k) 10 ∧ jX12_codesTold_95 (d + 13) (nI k) (nI q) (mm_uI m 196 (nI k).toNatClampNeg (m.1 164 46)) K (nI k) 0) else (K m)) := fun q' C m e l1 l2 l3 o s => by
      subst e
      have hbad' : m.1 164 5 = 0 := by obtain ⟨p, h⟩ := s.1; exact h.2.1
      have oo : offM (fun c j => wQs c j ∨ (c = 164 ∧ j = 49)) M m := offM_tr (offM_mono o1 (fun c j z => by unfold wQs wLx; omega)) (offM_mono o (fun c j z => Or.inl z))
      have Dr : mDr R m := mDr_off hD.2.2.1 oo (fun c j z => by unfold wQs wLx at z; omega)
      rw [nI_clamp (by omega), Dr.2.2.2.2.2.2]
      refine ipos hbad' ⟨vp_in_nI (by omega) (by decide), ?_⟩
      have o2 : offM (fun c j => c = 196 ∧ j = k) m (mm_uI m 196 k (nI R.2.2.2.2.2.2.2.2)) := offM_uI ⟨rfl, rfl⟩
      have f2 : (mm_uI m 196 k (nI R.2.2.2.2.2.2.2.2)).1 196 k = nI R.2.2.2.2.2.2.2.2 := uI_at _ _ _ _
      generalize mm_uI m 196 k (nI R.2.2.2.2.2.2.2.2) = m2 at o2 f2 ⊢
      refine m_95 (L := R.2.2.2.2.2.2.2.2) (C := C) (by rw [o2.2.2]; exact (st m o).2) hk (by omega) (by rw [o2.1 _ _ (by omega)]; exact s.2.1) (fun j c hj => by rw [o2.1 _ _ (by omega)]; exact s.2.2.1 j c hj) (by rw [o2.1 _ _ (by omega)]; exact Dr.2.2.2.2.2.2) (fun m3 o3 e46 e197 e198 => ?_)
      have o23 : offM (fun c j => (c = 196 ∧ j = k) ∨ (c = 198 ∧ R.2.2.2.2.2.2.2.2 ≤ j ∧ j < 1600) ∨ (c = 164 ∧ j = 46) ∨ (c = 197 ∧ j = k)) m m3 := offM_tr (offM_mono o2 (fun c j z => by omega)) (offM_mono o3 (fun c j z => by omega))
      refine hK m3 (offM_tr (st m o).1 (offM_mono o23 (fun c j z => by unfold wMd; omega))) ⟨mLx_off s.1 o23 (fun c j z => by omega), mWd_m s.2.2.2.2.2.2.2.2.2.2.1 o23 (fun c j z => by omega), ?_, by rw [o23.1 _ _ (by omega), oo.1 _ _ (by unfold wQs wLx; omega)]; exact hD.2.2.2⟩
      obtain ⟨d1, d2, d3, d4, d5, d6, d7⟩ := Dr
      refine ⟨by rw [o23.1 _ _ (by omega)]; exact d1, by rw [o23.1 _ _ (by omega)]; exact d2, by rw [o23.1 _ _ (by omega)]; exact d3, fun h hh => by rw [o23.2.1 192 h (by omega), o23.1 193 h (by omega), o23.1 194 h (by omega)]; exact d4 h hh, fun x y hx hy hxy => by rw [o23.1 _ _ (by omega)]; exact d5 x y hx hy hxy, fun j hj => ?_, e46⟩
      show (setF R.2.2.2.2.2.2.2.1 k (some C) j = none → _) ∧ ∀ C', setF R.2.2.2.2.2.2.2.1 k (some C) j = some C' → _
      by_cases e : j = k
      · subst e
        rw [setF_at]
        refine ⟨fun z => (by cases z), fun C' hC' => ?_⟩
        obtain rfl := Option.some.inj hC'
        exact ⟨R.2.2.2.2.2.2.2.2, R.2.2.2.2.2.2.2.2 + C.length, by rw [o3.1 _ _ (by omega)]; exact f2, e197, rfl, Nat.le_refl _, e198⟩
      · rw [setF_ne e]
        refine ⟨fun z => by rw [o23.1 _ _ (by omega)]; exact (d6 j hj).1 z, fun C' hC' => ?_⟩
        obtain ⟨f, e', q1, q2, q3, q4, q5⟩ := (d6 j hj).2 C' hC'
        refine ⟨f, e', by rw [o23.1 _ _ (by omega)]; exact q1, by rw [o23.1 _ _ (by omega)]; exact q2, q3, by show e' ≤ R.2.2.2.2.2.2.2.2 + C.length; omega, fun n c hc => ?_⟩
        have hl : n < C'.length := (List.getElem?_eq_some_iff.mp hc).1
        rw [o23.1 _ _ (by omega)]; exact q5 n c hc
    have lose : ∀ (e p : Nat) (m : mm_M) (F : Prop), r = .inr (e, p) → offM wQs m1 m → mXs e p m → (if (m.1 164 5) = 0 then F else (K m)) := fun e p m F hr o x => by
      subst hr
      exact ineg (mXn0 x) (hK m (st m o).1 x)
    have xeq : ∀ {a b c e : Nat}, xC a b = xC c e → a = c ∧ b = e := fun h => xC_inj h
    by_cases k2 : k = 2
    · subst k2
      refine ipos rfl ?_
      rcases hr with ⟨q1, C, hrun, he, l1, l2, l3, hr⟩ | ⟨e, p, hrun, hr⟩
      · unfold runS at hrun
        rw [if_pos rfl] at hrun
        refine m_qTestP (d := d) hG1 s1 hrun ⟨fun k p e => (by cases e), fun q2 C2 o2 e m2 om s2 hl => ?_⟩ (Or.inr ⟨q1, C, 0, rfl⟩)
        simp only [Prod.mk.injEq] at e
        obtain ⟨-, rfl, rfl, -, rfl⟩ := e
        exact keep q1 C m2 hr l2 l3 l1 om s2
      · unfold runS at hrun
        rw [if_pos rfl] at hrun
        refine m_qTestP (d := d) hG1 s1 hrun ⟨fun k' p' e' m2 o2 x2 => ?_, fun q2 C2 o2 e => (by cases e)⟩ (Or.inl ⟨e, p, rfl⟩)
        obtain ⟨rfl, rfl⟩ := xeq e'
        exact lose e p m2 _ hr o2 x2
    · refine ineg (fun z => k2 ((nI_eq (a := k) (b := 2) (by omega) (by decide)).mp z)) ?_
      rcases hr with ⟨q1, C, hrun, he, l1, l2, l3, hr⟩ | ⟨e, p, hrun, hr⟩
      · unfold runS at hrun
        rw [if_neg k2] at hrun
        refine m_qSumsP (e := 0) (d := d + 2) (F := []) (fun x hx => (by cases hx)) hG1 s1 (by show 0 + 0 + 0 ≤ _; omega) (Nat.le_refl _) hrun ⟨fun k p e => (by cases e), fun q2 C2 o2 e m2 om s2 hl _ => ?_⟩ (Or.inr ⟨q1, C, 0, rfl⟩)
        simp only [Prod.mk.injEq] at e
        obtain ⟨-, rfl, rfl, -, rfl⟩ := e
        exact keep q1 C m2 hr l2 l3 l1 om s2
      · unfold runS at hrun
        rw [if_neg k2] at hrun
        refine m_qSumsP (e := 0) (d := d + 2) (F := []) (fun x hx => (by cases hx)) hG1 s1 (by show 0 + 0 + 0 ≤ _; omega) (Nat.le_refl _) hrun ⟨fun k' p' e' m2 o2 x2 => ?_, fun q2 C2 o2 e => (by cases e)⟩ (Or.inl ⟨e, p, rfl⟩)
        obtain ⟨rfl, rfl⟩ := xeq e'
        exact lose e p m2 _ hr o2 x2.1
