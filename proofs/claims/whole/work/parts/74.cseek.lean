/-! ===== addFeuds, seekWanted ===== -/
def wAd (c _j : Nat) : Prop := c = 151 ∨ c = 154 ∨ c = 155
/-- what a search for n pairs leaves, those in wanted from j on -/
def seekR (o : Option (List Nat)) (j : Nat) (z : Int32) (m : mm_M) : Prop := match o with
  | some r => z = 1 ∧ ∀ k p, r[k]? = some p → m.1 151 (j + k) = nI p
  | none => z = 0
theorem bit_two : ∀ th, th < 128 → ∀ a, a < 7 → ∀ b, b < 7 → ((((nI th >>> (nI a &&& 31)) &&& (nI th >>> (nI b &&& 31))) &&& 1) = 0 ↔ (th.testBit a && th.testBit b) = false) := by decide +kernel
theorem foX_7 {N : dN} {x e b : Nat} (h : foX N x e b = true) : e < 7 := by
  unfold foX at h
  simp only [Bool.and_eq_true, decide_eq_true_eq] at h
  exact h.1.1
theorem c_addFeuds {U : dU} {N : dN} (hth : N.2.1 < 128) (vn : vN U N) (hfl : ∀ h, N.2.1.testBit h = true → U.1 ≤ N.2.2.1 h) : ∀ (n : Nat) (d j i x c : Nat) (M : mm_M) (K : Int32 → mm_M → Prop), j + n = c → c ≤ 3 → i ≤ 56 → xO x i → xT N x → mm_G M.2.2 → cFo (foX N x) M → (∀ m z, offM wAd M m → cFo (foX N x) m → seekR (seekW (allA U N) n (freeP N i) x) j z m → K z m) → mm_CI mX10_addFeuds (d + 2 + n) [.ref 149, .int (nI N.2.1), .int (nI i), .int (nI j), .int (nI c)] M K := by
  intro n
  induction n with
  | zero =>
    intro d j i x c M K hc h3 hi hxo hxt hG hF hK
    obtain rfl : c = j := by omega
    refine rX10_addFeuds (d := d + 1) hG (ipos (nI_le (Nat.le_refl _) (by omega)) ?_)
    refine c_allEat (sv := foX N x) hG hth (fun e b h => foX_7 h) hF (fun m z ho hz => ?_)
    have hr : allA U N x = true ↔ rc (foX N x) N.2.1 (pop N.2.1) N.2.1 := by rw [allA_rc hth, svX_foX vn hth hxt hfl]
    refine ⟨by rcases hz with ⟨rfl, -⟩ | ⟨rfl, -⟩; exact Or.inr rfl; exact Or.inl rfl, hK m z (offM_mono ho (fun c j q => Or.inr (Or.inr q))) (cFo_off hF ho (fun c j q => by omega)) ?_⟩
    show seekR (if allA U N x then some [] else none) c z m
    rcases hz with ⟨rfl, h⟩ | ⟨rfl, h⟩
    · rw [if_pos (hr.mpr h)]
      exact ⟨rfl, fun k p q => by simp at q⟩
    · rw [if_neg (mt hr.mp h)]
      exact rfl
  | succ n ih =>
    intro d j i x c M K hc h3 hi hxo hxt hG hF hK
    refine rX10_addFeuds (d := d + 2 + n) hG (ineg (nI_ge (by omega) (by omega)) (ipos (nI_lt (b := 3) (by omega) (by decide)) ?_))
    have loop : ∀ (k i : Nat) (m : mm_M), i + k = 56 → xO x i → offM wAd M m → cFo (foX N x) m → (∀ m' z, offM wAd M m' → cFo (foX N x) m' → seekR (seekW (allA U N) (n + 1) (freeP N i) x) j z m' → K z m') → ∀ x2 : Int32, jX10_addFeuds_20 (d + 2 + n) (nI N.2.1) x2 (nI j) (nI c) m K (nI N.2.1) (nI j) (nI c) (nI i) := by
      intro k
      induction k with
      | zero =>
        intro i m hik hxo ho hFm hK x2
        obtain rfl : i = 56 := by omega
        refine lX10_addFeuds_20 (by rw [ho.2.2]; exact hG) (ipos (by decide) (hK m 0 ho hFm ?_))
        exact rfl
      | succ k ihk =>
        intro i m hik hxo ho hFm hK x2
        have hGm : mm_G m.2.2 := by rw [ho.2.2]; exact hG
        have ed : nI i / 8 = nI (i / 8) := pk_div (d := 8) (by omega) (by decide) (by decide)
        have er : nI i - nI i / 8 * 8 = nI (i % 8) := pk_rem (d := 8) (by omega) (by decide) (by decide)
        have fp := freeP_at (N := N) (i := i) (by omega)
        have skip : freeB N i = false → jX10_addFeuds_20 (d + 2 + n) (nI N.2.1) x2 (nI j) (nI c) m K (nI N.2.1) (nI j) (nI c) (nI (i + 1)) := fun hf => by
          rw [fp, hf] at hK
          exact ihk (i + 1) m (by omega) (xO_mono hxo (by omega)) ho hFm hK x2
        have m0 : freeB N i = false → ∀ u : Int32, (u = 0 ∨ ¬ (i / 8 < i % 8)) → jX10_addFeuds_67 (d + 2 + n) (nI N.2.1) x2 (nI j) (nI c) m K (nI N.2.1) (nI j) (nI c) (nI i) (nI (i / 8)) (nI (i % 8)) u := fun hf u hu => by
          refine lX10_addFeuds_67 hGm ?_
          rw [nI_1]
          by_cases c1 : i % 8 ≤ i / 8
          · exact ipos (nI_le c1 (by omega)) (skip hf)
          · rcases hu with rfl | hu
            · exact ineg (nI_ge (by omega) (by omega)) (ipos rfl (skip hf))
            · omega
        refine lX10_addFeuds_20 hGm (ineg (nI_ge (b := 56) (by omega) (by decide)) ?_)
        rw [er, ed]
        by_cases c7 : 7 ≤ i % 8
        · refine ipos (nI_le (a := 7) c7 (by omega)) (m0 ?_ 0 (Or.inl rfl))
          unfold freeB
          have : ¬ (i / 8 < i % 8 ∧ i % 8 < 7) := by omega
          simp [this]
        · refine ineg (lt7 (by omega)) ?_
          have bt := bit_two N.2.1 hth (i / 8) (by omega) (i % 8) (by omega)
          by_cases cb : (((nI N.2.1 >>> (nI (i / 8) &&& 31)) &&& (nI N.2.1 >>> (nI (i % 8) &&& 31))) &&& 1) = 0
          · refine ipos cb (m0 ?_ 0 (Or.inl rfl))
            unfold freeB
            rw [bt.mp cb]
            simp
          · refine ineg cb ?_
            have cb' : (N.2.1.testBit (i / 8) && N.2.1.testBit (i % 8)) = true := by simpa using mt bt.mpr cb
            obtain ⟨t1, t2⟩ := Bool.and_eq_true_iff.mp cb'
            by_cases cl : i / 8 < i % 8
            · obtain ⟨f, f1, f2, f3⟩ := hFm (i / 8) (by omega)
              have hxi := hxo i (Nat.le_refl _) (by omega) cl (by omega)
              have hfo : foX N x (i / 8) (i % 8) = decide (0 < N.2.2.2.2 (i / 8) (i % 8)) := by
                unfold foX
                rw [pr_sym (i % 8) (by omega) (i / 8) (by omega), hxi]
                have h1 : i / 8 < 7 := by omega
                have h2 : i % 8 < 7 := by omega
                simp [h1, h2]
              refine lX10_addFeuds_67 hGm (ineg (nI_ge cl (by omega)) (ineg (by decide) ?_))
              rw [nI_clamp (n := i / 8) (by omega), f2, nI_1, nI_1]
              refine ⟨vp_in_nI (by omega) (by decide), ?_⟩
              have bf := bit_at f f1 (i % 8) (by omega)
              rw [f3 (i % 8) (by omega), hfo] at bf
              by_cases ch : ((nI f >>> (nI (i % 8) &&& 31)) &&& 1) = 0
              · have ch' := bf.mp ch
                have hh : ¬ 0 < N.2.2.2.2 (i / 8) (i % 8) := of_decide_eq_false ch'
                have hfree : freeB N i = true := by
                  unfold freeB
                  rw [cb', ch']
                  have : i / 8 < i % 8 ∧ i % 8 < 7 := by omega
                  simp [this]
                rw [fp, hfree, if_pos rfl] at hK
                refine ipos ch (c_toggle hGm (by omega) (by omega) (by omega) hFm (fun m1 o1 F1 => ?_))
                rw [foX_tgl vn (by omega) (by omega) (by omega) hh hxi] at F1
                have ho1 : offM wAd M m1 := offM_tr ho (offM_mono o1 (fun c j q => Or.inr (Or.inl q)))
                refine ih d (j + 1) (i + 1) _ c m1 _ (by omega) h3 (by omega) (xO_next hxo (by omega) cl (by omega)) (xT_next hxt (by omega) (by omega) (by omega) t1 t2) (by rw [ho1.2.2]; exact hG) F1 (fun m2 z o2 F2 hz => ?_)
                have ho2 : offM wAd M m2 := offM_tr ho1 o2
                refine c_toggle (by rw [ho2.2.2]; exact hG) (by omega) (by omega) (by omega) F2 (fun m3 o3 F3 => ?_)
                rw [← foX_tgl vn (by omega) (by omega) (by omega) hh hxi, tgl_tgl] at F3
                have ho3 : offM wAd M m3 := offM_tr ho2 (offM_mono o3 (fun c j q => Or.inr (Or.inl q)))
                have hstep : seekW (allA U N) (n + 1) (i :: freeP N (i + 1)) x = match seekW (allA U N) n (freeP N (i + 1)) (x ||| 2 ^ pr (i / 8) (i % 8)) with
                  | some r => some (i :: r)
                  | none => seekW (allA U N) (n + 1) (freeP N (i + 1)) x := rfl
                rw [hstep] at hK
                cases hs : seekW (allA U N) n (freeP N (i + 1)) (x ||| 2 ^ pr (i / 8) (i % 8)) with
                | some r =>
                  rw [hs] at hz hK
                  obtain ⟨rfl, hz⟩ := hz
                  refine ineg (by decide) ⟨vp_in_nI (by omega) (by decide), ?_⟩
                  rw [nI_clamp (n := j) (by omega)]
                  refine hK _ 1 (offM_tr ho3 (offM_uI (Or.inl rfl))) (cFo_off F3 (offM_uI (W := fun c _ => c = 151) rfl) (fun c j q => by omega)) ⟨rfl, fun k' p hk' => ?_⟩
                  cases k' with
                  | zero =>
                    have : i = p := by simpa using hk'
                    subst this
                    exact uI_at _ _ _ _
                  | succ k' =>
                    rw [uI_j (by omega), o3.1 _ _ (by omega)]
                    have := hz k' p (by simpa using hk')
                    rw [show j + (k' + 1) = j + 1 + k' by omega]
                    exact this
                | none =>
                  rw [hs] at hz hK
                  have hz : z = 0 := hz
                  subst hz
                  exact ipos rfl (ihk (i + 1) m3 (by omega) (xO_mono hxo (by omega)) ho3 F3 hK x2)
              · refine ineg ch (skip ?_)
                have ch' : decide (0 < N.2.2.2.2 (i / 8) (i % 8)) = true := by simpa using mt bf.mpr ch
                unfold freeB
                rw [ch']
                simp
            · refine m0 ?_ 1 (Or.inr cl)
              unfold freeB
              have : ¬ (i / 8 < i % 8 ∧ i % 8 < 7) := by omega
              simp [this]
    exact loop (56 - i) i M (by omega) hxo offM_rf hF hK _
theorem c_foesOf {d a e : Nat} {U : dU} {N : dN} {M : mm_M} {K : Int32 → mm_M → Prop} (ha : a ∈ mm_Sts) (hG : mm_G M.2.2) (hN : cN a N M) (he : e < 7) (hK : ∀ f, f < 128 → (∀ b, b < 7 → f.testBit b = decide (0 < N.2.2.2.2 e b)) → K (nI f) M) : mm_CI mX10_foesOf d [.ref a, .int (nI e)] M K := by
  have loop : ∀ (k i f : Nat), i + k = 7 → f < 128 → (∀ b, b < 7 → f.testBit b = (decide (b < i) && decide (0 < N.2.2.2.2 e b))) → jX10_foesOf_4 d a (nI e) M K (nI e) (nI f) (nI i) := by
    intro k
    induction k with
    | zero =>
      intro i f hi hf h
      obtain rfl : i = 7 := by omega
      refine lX10_foesOf_4 ha hG (ipos (by decide) (hK f hf (fun b hb => ?_)))
      rw [h b hb]
      simp [hb]
    | succ k ih =>
      intro i f hi hf h
      have hi7 : i < 7 := by omega
      refine lX10_foesOf_4 ha hG (ineg (lt7 hi7) ?_)
      rw [ix8 e (by omega) i (by omega), nI_clamp (by omega), hN.2.2.2.2 e i he hi7, (bit_or f hf i hi7).1, nI_1]
      refine ⟨vp_in_nI (by omega) (by decide), ?_⟩
      by_cases c : N.2.2.2.2 e i ≤ 0
      · have c' : ¬ 0 < N.2.2.2.2 e i := Int32.not_lt.mpr c
        refine ipos c (ih (i + 1) f (by omega) hf (fun b hb => ?_))
        rw [h b hb]
        by_cases z : b = i
        · subst z; simp [c']
        · have : (b < i) ↔ (b < i + 1) := by omega
          simp [this]
      · have c' : 0 < N.2.2.2.2 e i := Int32.not_le.mp c
        refine ineg c (ih (i + 1) (f ||| 2 ^ i) (by omega) (or_lt7 hf hi7) (fun b hb => ?_))
        rw [Nat.testBit_or, Nat.testBit_two_pow, h b hb]
        by_cases z : b = i
        · subst z; simp [c']
        · have h1 : (b < i) ↔ (b < i + 1) := by omega
          have h2 : ¬ i = b := fun w => z w.symm
          simp [h1, h2]
  exact rX10_foesOf ha hG (loop 7 0 0 (by omega) (by decide) (fun b hb => by simp))
/-- what a search leaves -/
def wantR (U : dU) (N : dN) (m : mm_M) : Prop := match wantA U N with
  | some r => m.1 149 3 = nI r.length ∧ r.length ≤ 3 ∧ ∀ k p, r[k]? = some p → m.1 151 k = nI p
  | none => m.1 149 3 = -1
def wSw (c j : Nat) : Prop := c = 151 ∨ c = 154 ∨ c = 155 ∨ (c = 149 ∧ (j = 3 ∨ j = 6))
theorem firstS_len {n : Nat} {f : Nat → List Nat → Option (List Nat)} (h : ∀ p l r, f p l = some r → r.length = n) : ∀ l r, firstS f l = some r → r.length = n + 1
  | [], r, q => by cases q
  | p :: l, r, q => by
    have q : (match f p l with | some r => some (p :: r) | none => firstS f l) = some r := q
    cases hs : f p l with
    | some r' =>
      rw [hs] at q
      cases q
      have := h p l r' hs
      simp [this]
    | none =>
      rw [hs] at q
      exact firstS_len h l r q
theorem seekW_len {ok : Nat → Bool} : ∀ n l x r, seekW ok n l x = some r → r.length = n
  | 0, l, x, r, q => by
    have q : (if ok x then some [] else none) = some r := q
    by_cases c : ok x = true
    · rw [if_pos c] at q; cases q; rfl
    · rw [if_neg c] at q; cases q
  | n + 1, l, x, r, q => firstS_len (fun p l' r' q' => seekW_len n l' _ r' q') l r q
theorem c_seekWanted {d a r : Nat} {x3 : Int32} {U : dU} {N : dN} {M : mm_M} {K : mm_M → Prop} (hr : r ∈ mm_Rls) (ha : a ∈ mm_Sts) (hG : mm_G M.2.2) (hN : cN a N M) (hl : M.1 r 1 = U.1) (vu : vU U) (vn : vN U N) (hc : M.1 149 6 = x3 → wantR U N M) (hK : ∀ m, offM wSw M m → m.1 149 6 = x3 → wantR U N m → K m) : mm_CV mX10_seekWanted (d + 6) [.ref 149, .ref r, .ref a, .int x3] M K := by
  have hs := St_at ha
  have hr' := Rl_at hr
  have hth := vN_lt vu vn
  refine rX10_seekWanted hr ha hG ?_
  by_cases c : M.1 149 6 = x3
  · exact ipos c (hK M offM_rf c (hc c))
  · refine ineg c ?_
    have o1 : offM wSw M (mm_uI (mm_uI M 149 6 x3) 149 3 (-1)) := offM_tr (offM_uI (by unfold wSw; omega)) (offM_uI (by unfold wSw; omega))
    have g6 : (mm_uI (mm_uI M 149 6 x3) 149 3 (-1)).1 149 6 = x3 := by rw [uI_j (by decide), uI_at]
    have g3 : (mm_uI (mm_uI M 149 6 x3) 149 3 (-1)).1 149 3 = -1 := uI_at _ _ _ _
    generalize mm_uI (mm_uI M 149 6 x3) 149 3 (-1) = m1 at o1 g6 g3 ⊢
    have fin : ∀ m, offM wAd m1 m → wantA U N = none → K m := fun m o h => by
      refine hK m (offM_tr o1 (offM_mono o (fun c j q => by unfold wAd at q; unfold wSw; omega))) (by rw [o.1 _ _ (by unfold wAd; omega)]; exact g6) ?_
      unfold wantR
      rw [h]
      show m.1 149 3 = -1
      rw [o.1 _ _ (by unfold wAd; omega)]; exact g3
    have outer : ∀ (k n : Nat) (m : mm_M), n + k = 4 → (∀ h, N.2.1.testBit h = true → U.1 ≤ N.2.2.1 h) → offM wAd m1 m → cFo (foX N 0) m → wantF (allA U N) (freeP N 0) k n = wantA U N → jX10_seekWanted_75 (d + 5) r a x3 m K (nI n) := by
      intro k
      induction k with
      | zero =>
        intro n m hn hfl o F h
        obtain rfl : n = 4 := by omega
        exact lX10_seekWanted_75 hr ha (by rw [o.2.2, o1.2.2]; exact hG) (ipos (by decide) (fin m o h.symm))
      | succ k ih =>
        intro n m hn hfl o F h
        have hGm : mm_G m.2.2 := by rw [o.2.2, o1.2.2]; exact hG
        refine lX10_seekWanted_75 hr ha hGm (ineg (nI_nlt (a := 3) (by omega) (by decide)) ?_)
        have e1 : m.1 a 1 = nI N.2.1 := by rw [o.1 _ _ (by unfold wAd; omega), o1.1 _ _ (by unfold wSw; omega)]; exact hN.2.1
        rw [e1, show d + 5 = (d + 3 - n) + 2 + n by omega]
        refine c_addFeuds (U := U) hth vn hfl n (d + 3 - n) 0 0 0 n m _ (by omega) (by omega) (by omega) (fun p _ _ _ _ => Nat.zero_testBit _) (fun p q _ _ _ h => by rw [Nat.zero_testBit] at h; cases h) hGm F (fun m2 z o2 F2 hz => ?_)
        rw [show (d + 3 - n) + 2 + n = d + 5 by omega]
        have h : (match seekW (allA U N) n (freeP N 0) 0 with | some r => some r | none => wantF (allA U N) (freeP N 0) k (n + 1)) = wantA U N := h
        cases hsk : seekW (allA U N) n (freeP N 0) 0 with
        | some w =>
          rw [hsk] at hz h
          obtain ⟨rfl, hz⟩ := hz
          have hlen := seekW_len _ _ _ _ hsk
          refine ineg (by decide) (hK _ (offM_tr (offM_tr o1 (offM_mono (offM_tr o o2) (fun c j q => by unfold wAd at q; unfold wSw; omega))) (offM_uI (by unfold wSw; omega))) ?_ ?_)
          · rw [uI_j (by decide), o2.1 _ _ (by unfold wAd; omega), o.1 _ _ (by unfold wAd; omega)]; exact g6
          · unfold wantR
            rw [← h]
            refine ⟨by rw [uI_at, hlen], by omega, fun k' p hp => ?_⟩
            rw [uI_c (by decide)]
            have := hz k' p hp
            rw [Nat.zero_add] at this
            exact this
        | none =>
          rw [hsk] at hz h
          have hz : z = 0 := hz
          subst hz
          rw [nI_1]
          exact ipos rfl (ih (n + 1) m2 (by omega) hfl (offM_tr o o2) F2 h)
    have inner : ∀ (k i : Nat) (m : mm_M), i + k = 7 → (∀ h, h < i → N.2.1.testBit h = true → U.1 ≤ N.2.2.1 h) → offM (fun c _ => c = 154) m1 m → (∀ e, e < i → ∃ f, f < 128 ∧ m.1 154 e = nI f ∧ ∀ b, b < 7 → f.testBit b = decide (0 < N.2.2.2.2 e b)) → jX10_seekWanted_22 (d + 5) r a x3 m K (nI i) := by
      intro k
      induction k with
      | zero =>
        intro i m hi hfl o F
        obtain rfl : i = 7 := by omega
        refine lX10_seekWanted_22 hr ha (by rw [o.2.2, o1.2.2]; exact hG) (ipos (by decide) ?_)
        refine outer 4 0 m (by omega) (fun h q => hfl h (hi_bit hth q) q) (offM_mono o (fun c j q => Or.inr (Or.inl q))) (fun e he => ?_) rfl
        obtain ⟨f, f1, f2, f3⟩ := F e he
        refine ⟨f, f1, f2, fun b hb => ?_⟩
        rw [f3 b hb]
        unfold foX
        simp [he, hb]
      | succ k ih =>
        intro i m hi hfl o F
        have hi7 : i < 7 := by omega
        have hGm : mm_G m.2.2 := by rw [o.2.2, o1.2.2]; exact hG
        have hNm : cN a N m := cN_off (cN_off hN o1 (fun c j q => by unfold wSw at q; omega)) o (fun c j q => by omega)
        refine lX10_seekWanted_22 hr ha hGm (ineg (lt7 hi7) (c_isThere ha hGm hNm.2.1 hth hi7 ?_))
        have put : (N.2.1.testBit i = true → U.1 ≤ N.2.2.1 i) → mm_CI mX10_foesOf (d + 5) [.ref a, .int (nI i)] m (fun z62 m62 => vp_in (nI i) 7 ∧ jX10_seekWanted_22 (d + 5) r a x3 (mm_uI m62 154 (nI i).toNatClampNeg z62) K (nI i + 1)) := fun hf => by
          refine c_foesOf (U := U) ha hGm hNm hi7 (fun f f1 f2 => ?_)
          rw [nI_clamp (by omega), nI_1]
          refine ⟨vp_in_nI hi7 (by decide), ih (i + 1) _ (by omega) (fun h q1 q2 => ?_) (offM_tr o (offM_uI rfl)) (fun e he => ?_)⟩
          · by_cases z : h = i
            · subst z; exact hf q2
            · exact hfl h (by omega) q2
          · by_cases z : e = i
            · subst z; exact ⟨f, f1, uI_at _ _ _ _, f2⟩
            · obtain ⟨g, w1, w2, w3⟩ := F e (by omega)
              exact ⟨g, w1, by rw [uI_j z]; exact w2, w3⟩
        by_cases ct : N.2.1.testBit i = true
        · rw [if_pos ct]
          refine ineg (by decide) ⟨vp_in_nI hi7 (by decide), ?_⟩
          rw [nI_clamp (n := i) (by omega), hNm.2.2.1 i hi7, o.1 r _ (by omega), o1.1 r _ (by unfold wSw; omega), hl]
          have put := put
          rw [nI_clamp (n := i) (by omega)] at put
          by_cases cf : U.1 ≤ N.2.2.1 i
          · exact ipos cf (put (fun _ => cf))
          · exact ineg cf (fin m (offM_mono o (fun c j q => Or.inr (Or.inl q))) (wantF_no (fun x => allA_no hth ct cf) 4 0))
        · rw [if_neg ct]
          exact ipos rfl (put (fun q => absurd q ct))
    exact inner 7 0 m1 (by omega) (fun h q => by omega) offM_rf (fun e he => by omega)
