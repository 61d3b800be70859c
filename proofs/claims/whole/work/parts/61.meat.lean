/-! ===== the reference's meals ===== -/
theorem fold_id {α : Type} {f : α → Nat → α} {x : α} : ∀ (l : List Nat), (∀ i ∈ l, f x i = x) → l.foldl f x = x
  | [], _ => rfl
  | i :: l, h => by
    rw [List.foldl_cons, h i List.mem_cons_self]
    exact fold_id l (fun j hj => h j (List.mem_cons_of_mem _ hj))
theorem range_ge {i k j : Nat} (h : j ∈ List.range' i k) : i ≤ j := (List.mem_range'_1.mp h).1
theorem val_d0 {F : Nat → Option Int} {v : Int} (h : F 6 = some v) : val F (dfl 0) = v := by simp [val, evl, e1, dfl, h]
theorem val_d1 {F : Nat → Option Int} {v : Int} (h : F 3 = some v) : val F (dfl 1) = v := by simp [val, evl, e1, dfl, h]
theorem val_d2 {F : Nat → Option Int} {v : Int} (h : F 14 = some v) : val F (dfl 2) = if 5 < v then 1 else 0 := by simp [val, evl, e1, dfl, h, jz]
theorem val_d3 {F : Nat → Option Int} {v : Int} (h : F 6 = some v) : val F (dfl 3) = v := by simp [val, evl, e1, dfl, h]
theorem val_d4 {F : Nat → Option Int} : val F (dfl 4) = 1 := by simp [val, evl, e1, dfl]
/-- asked of a loaf -/
theorem m_asksOf {d b e : Nat} {U : dU} {N : dN} {M : mm_M} {K : mm_M → Prop} (hG : mm_G M.2.2) (hN : mN N M) (vn : vN U N) (hb : b < 7) (he : e < 7) (hbe : b ≠ e) (hK : ∀ m, offM (fun c j => c = 164 ∧ (j = 52 ∨ j = 53 ∨ j = 54)) M m → m.1 164 52 = nI b → m.1 164 53 = nI e → m.2.1 164 54 = (N.2.2.2.2 e b).toInt64 → K m) : mm_CV mX12_asksOf (d + 2) [.ref 164, .int (nI b), .int (nI e)] M K := by
  refine rX12_asksOf hG ?_
  have o1 : offM (fun c j => c = 164 ∧ (j = 52 ∨ j = 53 ∨ j = 54)) M (mm_uI (mm_uI M 164 52 (nI b)) 164 53 (nI e)) := offM_tr (offM_uI (by omega)) (offM_uI (by omega))
  have g52 : (mm_uI (mm_uI M 164 52 (nI b)) 164 53 (nI e)).1 164 52 = nI b := by rw [uI_j (by decide), uI_at]
  have g53 : (mm_uI (mm_uI M 164 52 (nI b)) 164 53 (nI e)).1 164 53 = nI e := uI_at _ _ _ _
  generalize mm_uI (mm_uI M 164 52 (nI b)) 164 53 (nI e) = m at o1 g52 g53 ⊢
  refine m_hateOf (by rw [o1.2.2]; exact hG) (mN_off hN o1 (fun c j q => by omega)) hb he hbe ?_
  rw [vn.2.2.2.2.2.1 b e]
  exact hK _ (offM_tr o1 (offM_uL (by omega))) g52 g53 (uL_at _ _ _ _)
theorem mF_L {b e : Nat} {U : dU} {N : dN} {m : mm_M} (hU : mU U m) (hN : mN N m) (hbs : b < U.2.1) (hb : b < 7) (he : e < 7) (h1 : m.1 164 52 = nI b) (h2 : m.1 164 53 = nI e) (h3 : m.2.1 164 54 = (N.2.2.2.2 e b).toInt64) : mF m (fL U N b e) := by
  intro k v q
  rcases fL_of q with ⟨rfl, rfl⟩ | ⟨rfl, rfl⟩ | ⟨rfl, rfl⟩ | ⟨rfl, rfl⟩ | ⟨rfl, rfl⟩
  · exact Or.inr (Or.inr (Or.inr (Or.inl ⟨rfl, by rw [hN.1]⟩)))
  · exact Or.inl ⟨rfl, b, hb, h1, by rw [hN.2.2.1 b hb]⟩
  · exact Or.inr (Or.inl ⟨rfl, b, hb, h1, by rw [hU.2.2.1 b hbs]⟩)
  · exact Or.inr (Or.inr (Or.inl ⟨rfl, e, he, h2, by rw [hN.2.2.2.1 e he]⟩))
  · exact Or.inr (Or.inr (Or.inr (Or.inr (Or.inl ⟨rfl, by rw [h3, Int32.toInt_toInt64]⟩))))
theorem mF_H {h : Nat} {U : dU} {N : dN} {m : mm_M} (hU : mU U m) (hN : mN N m) (hhs : h < U.2.1) (hh : h < 7) (h1 : m.1 164 52 = nI h) (h2 : m.1 164 53 = nI h) : mF m (fH U N h) := by
  intro k v q
  rcases fH_of q with ⟨rfl, rfl⟩ | ⟨rfl, rfl⟩ | ⟨rfl, rfl⟩ | ⟨rfl, rfl⟩
  · exact Or.inr (Or.inr (Or.inr (Or.inl ⟨rfl, by rw [hN.1]⟩)))
  · exact Or.inl ⟨rfl, h, hh, h1, by rw [hN.2.2.1 h hh]⟩
  · exact Or.inr (Or.inl ⟨rfl, h, hh, h1, by rw [hU.2.2.1 h hhs]⟩)
  · exact Or.inr (Or.inr (Or.inl ⟨rfl, h, hh, h2, by rw [hN.2.2.2.1 h hh]⟩))
/-- codesTell of a kind that is told, in the rules U -/
theorem m_kind {d w : Nat} {U : dU} {M : mm_M} {K : Int64 → mm_M → Prop} {F : Nat → Option Int} {al : List Nat} {b : Bool} (hG : mm_G M.2.2) (hU : mU U M) (hw : w < 5) (ht : ¬ M.1 196 (5 + w) = -1) (hal : ∀ k ∈ al, ∃ v, F k = some v) (ho : okc al b (U.2.2.2 w)) (hF : ∀ k v, F k = some v → okz v) (hM : ∀ m, offM (fun c j => (c = 164 ∧ (j = 49 ∨ j = 111)) ∨ c = 241) M m → mF m F) (hK : ∀ m (z : Int64), offM wA M m → z.toInt = val F (U.2.2.2 w) → K z m) : mm_CL mX12_codesTell (d + 6) [.ref 164, .int (nI w)] M K := by
  rcases hU.2.2.2 w hw with ⟨q1, -⟩ | ⟨f, e, q1, q2, q3, q4, q5⟩
  · exact absurd q1 ht
  · exact m_codesTell hG hw q1 q2 q3 q4 q5 hal ho hF hM (fun m z ho hz => hK m z (offM_mono ho (fun c j q => by unfold wA; omega)) hz)
theorem m_bakesFor {d b e : Nat} {U : dU} {N : dN} {M : mm_M} {K : Int64 → mm_M → Prop} (hG : mm_G M.2.2) (hU : mU U M) (hN : mN N M) (vu : vU U) (vn : vN U N) (hbs : b < U.2.1) (hb : b < 7) (he : e < 7) (hbe : b ≠ e) (hK : ∀ m (z : Int64), offM wA M m → z.toInt = worth U N b e → K z m) : mm_CL mX12_bakesFor (d + 7) [.ref 164, .int (nI b), .int (nI e)] M K := by
  refine rX12_bakesFor hG (m_asksOf (U := U) hG hN vn hb he hbe (fun m o g1 g2 g3 => ?_))
  have hGm : mm_G m.2.2 := by rw [o.2.2]; exact hG
  have oA : offM wA M m := offM_mono o (fun c j q => by unfold wA; omega)
  have hUm : mU U m := mU_off hU o (fun c j q => by omega)
  have hNm : mN N m := mN_off hN o (fun c j q => by omega)
  refine m_isTold (w := 0) hGm (by decide) ?_
  by_cases c : m.1 196 (5 + 0) = -1
  · rw [if_pos c]
    refine ipos rfl (hK m _ oA ?_)
    rcases hUm.2.2.2 0 (by decide) with ⟨-, q⟩ | ⟨f, e', q1, -⟩
    · rw [g3, Int32.toInt_toInt64]
      unfold worth
      rw [q, val_d0 (v := (N.2.2.2.2 e b).toInt) rfl]
    · rcases hUm.2.2.2 0 (by decide) with ⟨-, q⟩ | ⟨f, e', q1, q2, q3, q4, -⟩
      · rw [g3, Int32.toInt_toInt64]
        unfold worth
        rw [q, val_d0 (v := (N.2.2.2.2 e b).toInt) rfl]
      · exfalso
        rw [q1] at c
        exact nI_pos (n := f) (by omega) (by rw [c]; decide)
  · rw [if_neg c]
    refine ineg (by decide) ?_
    refine m_kind (al := alL) (F := fL U N b e) hGm hUm (by decide) c fL_all vu.2.2.2.1 (fL_ok vu vn) (fun m2 o2 => mF_L (mU_off hUm o2 (fun c j q => by omega)) (mN_off hNm o2 (fun c j q => by omega)) hbs hb he (by rw [o2.1 _ _ (by omega)]; exact g1) (by rw [o2.1 _ _ (by omega)]; exact g2) (by rw [o2.2.1 _ _ (by omega)]; exact g3)) (fun m2 z o2 hz => hK m2 z (offM_tr oA o2) hz)
theorem told_no {U : dU} {m : mm_M} {w : Nat} (hU : mU U m) (hw : w < 5) (c : m.1 196 (5 + w) = -1) : U.2.2.2 w = dfl w := by
  rcases hU.2.2.2 w hw with ⟨-, q⟩ | ⟨f, e', q1, q2, q3, q4, -⟩
  · exact q
  · exfalso
    rw [q1] at c
    exact nI_pos (n := f) (by omega) (by rw [c]; decide)
theorem m_tasteOf {d b e : Nat} {U : dU} {N : dN} {M : mm_M} {K : Int32 → mm_M → Prop} (hG : mm_G M.2.2) (hU : mU U M) (hN : mN N M) (vu : vU U) (vn : vN U N) (hbs : b < U.2.1) (hb : b < 7) (he : e < 7) (hbe : b ≠ e) (hK : ∀ m, offM wA M m → K (tasteA U N b e) m) : mm_CI mX12_tasteOf (d + 7) [.ref 164, .int (nI b), .int (nI e)] M K := by
  refine rX12_tasteOf hG (m_asksOf (U := U) hG hN vn hb he hbe (fun m o g1 g2 g3 => ?_))
  have hGm : mm_G m.2.2 := by rw [o.2.2]; exact hG
  have oA : offM wA M m := offM_mono o (fun c j q => by unfold wA; omega)
  have hUm : mU U m := mU_off hU o (fun c j q => by omega)
  have hNm : mN N m := mN_off hN o (fun c j q => by omega)
  refine m_isTold (w := 1) hGm (by decide) ?_
  by_cases c : m.1 196 (5 + 1) = -1
  · rw [if_pos c]
    refine ipos rfl ?_
    rw [n7, nI_clamp (by omega), hUm.2.2.1 b hbs]
    refine ⟨vp_in_nI (by omega) (by decide), m_cut hGm ?_⟩
    have ht : bnd (U.2.2.1 b).toInt64.toInt = tasteA U N b e := by
      unfold tasteA
      rw [told_no hUm (by decide) c, val_d1 (v := (U.2.2.1 b).toInt) rfl, Int32.toInt_toInt64]
    rw [ht]
    exact hK m oA
  · rw [if_neg c]
    refine ineg (by decide) ?_
    refine m_kind (al := alL) (F := fL U N b e) hGm hUm (by decide) c fL_all vu.2.2.2.2.1 (fL_ok vu vn) (fun m2 o2 => mF_L (mU_off hUm o2 (fun c j q => by omega)) (mN_off hNm o2 (fun c j q => by omega)) hbs hb he (by rw [o2.1 _ _ (by omega)]; exact g1) (by rw [o2.1 _ _ (by omega)]; exact g2) (by rw [o2.2.1 _ _ (by omega)]; exact g3)) (fun m2 z o2 hz => ?_)
    refine m_cut (by rw [o2.2.2]; exact hGm) ?_
    rw [hz]
    exact hK m2 (offM_tr oA o2)
theorem or_nI : ∀ a, a < 128 → ∀ b, b < 128 → nI a ||| nI b = nI (a ||| b) ∧ (a ||| b) < 128 := by decide +kernel
theorem m_canBake {d h rest bk : Nat} {U : dU} {N : dN} {M : mm_M} {K : Int32 → mm_M → Prop} (hG : mm_G M.2.2) (hU : mU U M) (hN : mN N M) (hh : h < 7) (hr : rest < 128) (hb : bk < 128) (h59 : M.1 164 59 = nI rest) (h60 : M.1 164 60 = nI bk) (hK : K (if (N.2.1.testBit h = true ∧ U.1 ≤ N.2.2.1 h ∧ (rest ||| bk).testBit h = false) then 1 else 0) M) : mm_CI mX12_canBake (d + 1) [.ref 164, .int (nI h)] M K := by
  refine rX12_canBake hG (m_isThere hG hN hh ?_)
  by_cases c1 : N.2.1.testBit h = true
  · rw [if_pos c1]
    refine ineg (by decide) (m_flourOf hG hN hh ?_)
    have e2 : (2 : Int32).toNatClampNeg = 2 := rfl
    rw [e2, hU.1]
    by_cases c2 : N.2.2.1 h < U.1
    · rw [if_neg (fun q => Int32.not_le.mpr c2 q.2.1)] at hK
      exact ipos c2 hK
    · refine ineg c2 ?_
      obtain ⟨q1, q2⟩ := or_nI rest hr bk hb
      rw [h59, h60, q1]
      have hb2 := bit_at _ q2 _ hh
      by_cases c3 : ((nI (rest ||| bk) >>> (nI h &&& 31)) &&& 1) = 0
      · rw [if_pos ⟨c1, Int32.not_lt.mp c2, hb2.mp c3⟩] at hK
        exact ipos c3 hK
      · rw [if_neg (fun q => c3 (hb2.mpr q.2.2))] at hK
        exact ineg c3 hK
  · rw [if_neg c1]
    rw [if_neg (fun q => c1 q.1)] at hK
    exact ipos rfl hK
theorem m_baker_loop {d e rest bk : Nat} {U : dU} {N : dN} {M : mm_M} {K : Int32 → mm_M → Prop} {x1 : Int32} (hG : mm_G M.2.2) (hU : mU U M) (hN : mN N M) (vu : vU U) (vn : vN U N) (he : e < 7) (hr : rest < 128) (hb : bk < 128) (h59 : M.1 164 59 = nI rest) (h60 : M.1 164 60 = nI bk) : ∀ (k i : Nat) (acc : Option (Nat × Int)) (y2 : Int32) (y3 : Int64) (m : mm_M), i + k = 7 → i ≤ U.2.1 → offM wA M m → y2 = pickR (acc.map (·.1)) → (∀ q, acc = some q → y3.toInt = q.2 ∧ q.1 < 7) →
    (∀ m', offM wA M m' → K (pickR (((List.range' i k).foldl (pickS (able U N e (rest ||| bk)) (fun b => worth U N b e)) acc).map (·.1))) m') → jX12_bakerFor_7 (d + 7) x1 m K (nI e) y2 y3 (nI i) := by
  intro k
  induction k with
  | zero =>
    intro i acc y2 y3 m hi hs ho h2 h3 hK
    have hGm : mm_G m.2.2 := by rw [ho.2.2]; exact hG
    have hUm : mU U m := mU_off hU ho (fun c j q => by unfold wA at q; omega)
    refine lX12_bakerFor_7 hGm (m_houseMany hGm ?_)
    rw [hUm.2.1, h2]
    exact ipos (nI_le (by have := vu.2.1; omega) (by omega)) (hK m ho)
  | succ k ih =>
    intro i acc y2 y3 m hi hs ho h2 h3 hK
    have hi7 : i < 7 := by omega
    have hu7 := vu.2.1
    have hGm : mm_G m.2.2 := by rw [ho.2.2]; exact hG
    have hUm : mU U m := mU_off hU ho (fun c j q => by unfold wA at q; omega)
    have hNm : mN N m := mN_off hN ho (fun c j q => by unfold wA at q; omega)
    refine lX12_bakerFor_7 hGm (m_houseMany hGm ?_)
    rw [hUm.2.1, nI_1]
    by_cases hx : U.2.1 ≤ i
    · refine ipos (nI_le hx (by omega)) ?_
      rw [h2]
      have := hK m ho
      rw [fold_id (List.range' i (k + 1)) (fun j hj => ?_)] at this
      · exact this
      · have hji := range_ge hj
        unfold pickS
        have : able U N e (rest ||| bk) j = false := by
          apply Bool.eq_false_iff.mpr
          intro q
          have := bit_lt vn (vn.2.2.2.2.2.2.2 e j (able_of q).1).2
          omega
        rw [this]; rfl
    · refine ineg (nI_ge (by omega) (by omega)) ?_
      rw [List.range'_succ, List.foldl_cons] at hK
      refine m_areEnemies hGm hNm vn he hi7 ?_
      have no : able U N e (rest ||| bk) i = false → ∀ m1, offM wA M m1 → jX12_bakerFor_7 (d + 7) x1 m1 K (nI e) y2 y3 (nI (i + 1)) := fun q m1 o1 => by
        have : pickS (able U N e (rest ||| bk)) (fun b => worth U N b e) acc i = acc := by unfold pickS; rw [q]; rfl
        rw [this] at hK
        exact ih (i + 1) acc y2 y3 m1 (by omega) (by omega) o1 h2 h3 hK
      by_cases c1 : 0 < N.2.2.2.2 e i
      · rw [if_pos c1]
        refine ineg (by decide) (m_canBake (rest := rest) (bk := bk) hGm hUm hNm hi7 hr hb (by rw [ho.1 _ _ (by unfold wA; omega)]; exact h59) (by rw [ho.1 _ _ (by unfold wA; omega)]; exact h60) ?_)
        have ht := (vn.2.2.2.2.2.2.2 e i c1).2
        by_cases c2 : N.2.1.testBit i = true ∧ U.1 ≤ N.2.2.1 i ∧ (rest ||| bk).testBit i = false
        · rw [if_pos c2]
          have hab : able U N e (rest ||| bk) i = true := by unfold able; rw [c2.2.2]; simp [c1, c2.2.1]
          refine ineg (by decide) ?_
          have hie : i ≠ e := fun q => by rw [q, vn.2.2.2.2.2.2.1 e] at c1; exact absurd c1 (by decide)
          refine m_bakesFor hGm hUm hNm vu vn (by omega) hi7 he hie (fun m1 z o1 hz => ?_)
          have o2 := offM_tr ho o1
          have take : pickS (able U N e (rest ||| bk)) (fun b => worth U N b e) acc i = some (i, worth U N i e) → jX12_bakerFor_7 (d + 7) x1 m1 K (nI e) (nI i) z (nI (i + 1)) := fun q => by
            rw [q] at hK
            exact ih (i + 1) (some (i, worth U N i e)) (nI i) z m1 (by omega) (by omega) o2 rfl (fun q hq => by cases hq; exact ⟨hz, hi7⟩) hK
          match acc, h2, h3, hK, take with
          | none, h2, h3, hK, take =>
            exact ipos h2 (take (by unfold pickS; rw [hab]; rfl))
          | some (b0, w0), h2, h3, hK, take =>
            obtain ⟨h31, h32⟩ := h3 _ rfl
            have h2 : y2 = nI b0 := h2
            have h31 : y3.toInt = w0 := h31
            have h32 : b0 < 7 := h32
            refine ineg (by rw [h2]; exact fun q => nI_pos (n := b0) (by omega) (by rw [q]; decide)) ?_
            by_cases c3 : y3 < z
            · have c3' := i64_lt.mp c3
              rw [hz, h31] at c3'
              exact ipos c3 (take (by unfold pickS; rw [hab, if_pos rfl]; simp only; rw [if_pos (by omega)]))
            · have c3' := mt i64_lt.mpr c3
              rw [hz, h31] at c3'
              refine ineg c3 ?_
              have : pickS (able U N e (rest ||| bk)) (fun b => worth U N b e) (some (b0, w0)) i = some (b0, w0) := by unfold pickS; rw [hab, if_pos rfl]; simp only; rw [if_neg (by omega)]
              rw [this] at hK
              exact ih (i + 1) (some (b0, w0)) y2 y3 m1 (by omega) (by omega) o2 h2 (fun q hq => by cases hq; exact ⟨h31, h32⟩) hK
        · rw [if_neg c2]
          refine ipos rfl (no ?_ m ho)
          apply Bool.eq_false_iff.mpr
          intro q
          exact c2 ⟨ht, (able_of q).2.1, (able_of q).2.2⟩
      · rw [if_neg c1]
        refine ipos rfl (no ?_ m ho)
        apply Bool.eq_false_iff.mpr
        intro q
        exact c1 (able_of q).1
theorem m_bakerFor {d e rest bk : Nat} {U : dU} {N : dN} {M : mm_M} {K : Int32 → mm_M → Prop} (hG : mm_G M.2.2) (hU : mU U M) (hN : mN N M) (vu : vU U) (vn : vN U N) (he : e < 7) (hr : rest < 128) (hb : bk < 128) (h59 : M.1 164 59 = nI rest) (h60 : M.1 164 60 = nI bk) (hK : ∀ m, offM wA M m → K (pickR (pickA U N e (rest ||| bk))) m) : mm_CI mX12_bakerFor (d + 8) [.ref 164, .int (nI e)] M K :=
  rX12_bakerFor hG (m_baker_loop hG hU hN vu vn he hr hb h59 h60 7 0 none (-1) 0 M (by omega) (by omega) offM_rf rfl (fun q hq => by cases hq) hK)
