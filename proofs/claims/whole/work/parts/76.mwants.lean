/-! ===== wantingMany ===== -/
def wW (c j : Nat) : Prop := c = 205 ∨ c = 206 ∨ c = 208 ∨ c = 209 ∨ c = 210 ∨ (c = 164 ∧ j = 66)
/-- what wantingMany leaves -/
def wantM (U : dU) (N : dN) (z : Int32) (m : mm_M) : Prop := match wantA U N with
  | some r => z = nI r.length ∧ r.length ≤ 3 ∧ ∀ k p, r[k]? = some p → p / 8 < p % 8 ∧ p % 8 < 7 ∧ ∃ a, a < 21 ∧ m.1 210 k = nI a ∧ m.1 208 a = nI (p / 8) ∧ m.1 209 a = nI (p % 8)
  | none => z = -1
theorem drop_at {l : List Nat} {a p : Nat} (h : l[a]? = some p) : l.drop a = p :: l.drop (a + 1) := by
  obtain ⟨h1, h2⟩ := List.getElem?_eq_some_iff.mp h
  rw [List.drop_eq_getElem_cons h1, h2]
theorem m_wantingMany {d : Nat} {U : dU} {N : dN} {M : mm_M} {K : Int32 → mm_M → Prop} (hG : mm_G M.2.2) (hU : mU U M) (hN : mN N M) (vu : vU U) (vn : vN U N) (hK : ∀ m z, offM wW M m → wantM U N z m → K z m) : mm_CI mX12_wantingMany (d + 7) [.ref 164] M K := by
  have lv := freeP_v (N := N)
  refine rX12_wantingMany hG (m_laysFree (d := d + 3) hG hU hN vu vn (fun m0 o0 f0 => ?_))
  have ho0 : offM wW M m0 := offM_mono o0 (fun c j q => by unfold wF at q; unfold wW; omega)
  generalize hl : freeP N 0 = l at lv f0
  have hl21 := lv.1
  have at_ : ∀ a, a < l.length → ∃ p, l[a]? = some p ∧ p / 8 < p % 8 ∧ p % 8 < 7 ∧ pr (p / 8) (p % 8) < 21 := fun a ha => by
    have hp := List.getElem?_eq_getElem ha
    have hv := lv.2 _ (List.mem_of_getElem? hp)
    exact ⟨_, hp, hv.1, hv.2, pr_lt _ (by omega) _ hv.2 (by omega)⟩
  -- what stays while it is sought
  have keep : ∀ m, offM wW M m → mm_G m.2.2 ∧ mU U m ∧ mN N m := fun m ho => ⟨by rw [ho.2.2]; exact hG, mU_off hU ho (fun c j q => by unfold wW at q; omega), mN_off hN ho (fun c j q => by unfold wW at q; omega)⟩
  have eatK : ∀ (m : mm_M) (x : Nat) (K' : Int32 → mm_M → Prop), offM wW M m → mFr l m → x < 2 ^ 21 → (∀ m', offM wW M m' → mFr l m' → m'.1 210 = m.1 210 → K' (if allA U N x then 1 else 0) m') → mm_CI mX12_doAllEat (d + 6) [.ref 164, .int (nI x)] m K' := fun m x K' ho hf hx h => by
    obtain ⟨k1, k2, k3⟩ := keep m ho
    refine m_doAllEat k1 k2 k3 vu vn hx (fun m' o' => h m' (offM_tr ho (offM_mono o' (fun c j q => by unfold wDo at q; unfold wW; omega))) (mFr_off hf o' (fun c j q => by unfold wDo at q; omega)) ?_)
    funext j
    exact o'.1 _ _ (by unfold wDo; omega)
  have w0 : (0 : Int32).toNatClampNeg = 0 := rfl
  have w1 : (1 : Int32).toNatClampNeg = 1 := rfl
  have w2 : (2 : Int32).toNatClampNeg = 2 := rfl
  have hw : wantA U N = wantF (allA U N) l 4 0 := by unfold wantA; rw [hl]
  -- three pairs
  have L3 : ∀ (k a : Nat) (m : mm_M), a + k = l.length → offM wW M m → mFr l m → wantA U N = seekW (allA U N) 3 (l.drop a) 0 → jX12_wantingMany_113 (d + 6) m K (nI l.length) (nI a) := by
    intro k
    induction k with
    | zero =>
      intro a m ha ho hf h
      obtain rfl : a = l.length := by omega
      refine lX12_wantingMany_113 (keep m ho).1 (ipos (nI_le (Nat.le_refl _) (by omega)) (hK m _ ho ?_))
      rw [List.drop_length] at h
      unfold wantM
      rw [h]
      exact rfl
    | succ k ih =>
      intro a m ha ho hf h
      obtain ⟨p, hp, v1, v2, v3⟩ := at_ a (by omega)
      rw [drop_at hp] at h
      refine lX12_wantingMany_113 (keep m ho).1 (ineg (nI_ge (by omega) (by omega)) ?_)
      rw [nI_1]
      have h : wantA U N = match seekW (allA U N) 2 (l.drop (a + 1)) (0 ||| 2 ^ pr (p / 8) (p % 8)) with | some r => some (p :: r) | none => seekW (allA U N) 3 (l.drop (a + 1)) 0 := h
      rw [Nat.zero_or] at h
      have L3b : ∀ (k' b : Nat) (m : mm_M), b + k' = l.length → a < b → offM wW M m → mFr l m → seekW (allA U N) 2 (l.drop (a + 1)) (2 ^ pr (p / 8) (p % 8)) = seekW (allA U N) 2 (l.drop b) (2 ^ pr (p / 8) (p % 8)) → jX12_wantingMany_122 (d + 6) m K (nI l.length) (nI a) (nI b) := by
        intro k'
        induction k' with
        | zero =>
          intro b m hb hab ho hf hs
          obtain rfl : b = l.length := by omega
          rw [List.drop_length] at hs
          have hs : seekW (allA U N) 2 (l.drop (a + 1)) (2 ^ pr (p / 8) (p % 8)) = none := hs
          rw [hs] at h
          refine lX12_wantingMany_122 (keep m ho).1 (ipos (nI_le (Nat.le_refl _) (by omega)) ?_)
          rw [nI_1]
          exact ih (a + 1) m (by omega) ho hf h
        | succ k' ih' =>
          intro b m hb hab ho hf hs
          obtain ⟨q, hq, u1, u2, u3⟩ := at_ b (by omega)
          rw [drop_at hq] at hs
          refine lX12_wantingMany_122 (keep m ho).1 (ineg (nI_ge (by omega) (by omega)) ?_)
          rw [nI_1]
          have hs : seekW (allA U N) 2 (l.drop (a + 1)) (2 ^ pr (p / 8) (p % 8)) = match seekW (allA U N) 1 (l.drop (b + 1)) (2 ^ pr (p / 8) (p % 8) ||| 2 ^ pr (q / 8) (q % 8)) with | some r => some (q :: r) | none => seekW (allA U N) 2 (l.drop (b + 1)) (2 ^ pr (p / 8) (p % 8)) := hs
          have L3c : ∀ (k'' c : Nat) (m : mm_M), c + k'' = l.length → b < c → offM wW M m → mFr l m → seekW (allA U N) 1 (l.drop (b + 1)) (2 ^ pr (p / 8) (p % 8) ||| 2 ^ pr (q / 8) (q % 8)) = seekW (allA U N) 1 (l.drop c) (2 ^ pr (p / 8) (p % 8) ||| 2 ^ pr (q / 8) (q % 8)) → jX12_wantingMany_132 (d + 6) m K (nI l.length) (nI a) (nI b) (nI c) := by
            intro k''
            induction k'' with
            | zero =>
              intro c m hc hbc ho hf ht
              obtain rfl : c = l.length := by omega
              rw [List.drop_length] at ht
              have ht : seekW (allA U N) 1 (l.drop (b + 1)) (2 ^ pr (p / 8) (p % 8) ||| 2 ^ pr (q / 8) (q % 8)) = none := ht
              rw [ht] at hs
              refine lX12_wantingMany_132 (keep m ho).1 (ipos (nI_le (Nat.le_refl _) (by omega)) ?_)
              rw [nI_1]
              exact ih' (b + 1) m (by omega) (by omega) ho hf hs
            | succ k'' ih'' =>
              intro c m hc hbc ho hf ht
              obtain ⟨s, hs', t1, t2, t3⟩ := at_ c (by omega)
              rw [drop_at hs'] at ht
              have ht : seekW (allA U N) 1 (l.drop (b + 1)) (2 ^ pr (p / 8) (p % 8) ||| 2 ^ pr (q / 8) (q % 8)) = match (if allA U N (2 ^ pr (p / 8) (p % 8) ||| 2 ^ pr (q / 8) (q % 8) ||| 2 ^ pr (s / 8) (s % 8)) then some [] else none) with | some r => some (s :: r) | none => seekW (allA U N) 1 (l.drop (c + 1)) (2 ^ pr (p / 8) (p % 8) ||| 2 ^ pr (q / 8) (q % 8)) := ht
              refine lX12_wantingMany_132 (keep m ho).1 (ineg (nI_ge (by omega) (by omega)) ?_)
              rw [w0, w1, w2]
              have o1 : offM (fun c _ => c = 210) m (mm_uI (mm_uI (mm_uI m 210 0 (nI a)) 210 1 (nI b)) 210 2 (nI c)) := offM_tr (offM_tr (offM_uI rfl) (offM_uI rfl)) (offM_uI rfl)
              have g0 : (mm_uI (mm_uI (mm_uI m 210 0 (nI a)) 210 1 (nI b)) 210 2 (nI c)).1 210 0 = nI a := by rw [uI_j (by decide), uI_j (by decide), uI_at]
              have g1 : (mm_uI (mm_uI (mm_uI m 210 0 (nI a)) 210 1 (nI b)) 210 2 (nI c)).1 210 1 = nI b := by rw [uI_j (by decide), uI_at]
              have g2 : (mm_uI (mm_uI (mm_uI m 210 0 (nI a)) 210 1 (nI b)) 210 2 (nI c)).1 210 2 = nI c := by rw [uI_at]
              generalize mm_uI (mm_uI (mm_uI m 210 0 (nI a)) 210 1 (nI b)) 210 2 (nI c) = m1 at o1 g0 g1 g2 ⊢
              have ho1 : offM wW M m1 := offM_tr ho (offM_mono o1 (fun c j q => by unfold wW; omega))
              have hf1 : mFr l m1 := mFr_off hf o1 (fun c j q => by omega)
              refine m_bitOf (d := d + 5) (keep m1 ho1).1 lv hf1 hp (m_bitOf (d := d + 5) (keep m1 ho1).1 lv hf1 hq (m_bitOf (d := d + 5) (keep m1 ho1).1 lv hf1 hs' ?_))
              rw [or2 _ v3 _ u3, or3 _ v3 _ u3 _ t3]
              refine eatK m1 _ _ ho1 hf1 (Nat.or_lt_two_pow (Nat.or_lt_two_pow (Nat.pow_lt_pow_right (by omega) v3) (Nat.pow_lt_pow_right (by omega) u3)) (Nat.pow_lt_pow_right (by omega) t3)) (fun m2 ho2 hf2 h210 => ?_)
              by_cases ca : allA U N (2 ^ pr (p / 8) (p % 8) ||| 2 ^ pr (q / 8) (q % 8) ||| 2 ^ pr (s / 8) (s % 8)) = true
              · rw [if_pos ca] at ht ⊢
                refine ineg (by decide) (hK m2 3 ho2 ?_)
                have ht : seekW (allA U N) 1 (l.drop (b + 1)) (2 ^ pr (p / 8) (p % 8) ||| 2 ^ pr (q / 8) (q % 8)) = some [s] := ht
                rw [ht] at hs
                have hs : seekW (allA U N) 2 (l.drop (a + 1)) (2 ^ pr (p / 8) (p % 8)) = some [q, s] := hs
                rw [hs] at h
                have h : wantA U N = some [p, q, s] := h
                unfold wantM
                rw [h]
                refine ⟨rfl, by simp, fun k3 p3 hp3 => ?_⟩
                rw [h210]
                match k3, hp3 with
                | 0, hp3 =>
                  have : p = p3 := by simpa using hp3
                  subst this
                  exact ⟨v1, v2, a, by omega, g0, hf2 a p hp⟩
                | 1, hp3 =>
                  have : q = p3 := by simpa using hp3
                  subst this
                  exact ⟨u1, u2, b, by omega, g1, hf2 b q hq⟩
                | 2, hp3 =>
                  have : s = p3 := by simpa using hp3
                  subst this
                  exact ⟨t1, t2, c, by omega, g2, hf2 c s hs'⟩
                | k3 + 3, hp3 => simp at hp3
              · rw [if_neg ca] at ht ⊢
                refine ipos rfl ?_
                rw [nI_1]
                exact ih'' (c + 1) m2 (by omega) (by omega) ho2 hf2 ht
          exact L3c (l.length - (b + 1)) (b + 1) m (by omega) (by omega) ho hf rfl
      exact L3b (l.length - (a + 1)) (a + 1) m (by omega) (by omega) ho hf rfl
  -- two pairs
  have L2 : ∀ (k a : Nat) (m : mm_M), a + k = l.length → offM wW M m → mFr l m → wantA U N = (match seekW (allA U N) 2 (l.drop a) 0 with | some r => some r | none => seekW (allA U N) 3 l 0) → jX12_wantingMany_51 (d + 6) m K (nI l.length) (nI a) := by
    intro k
    induction k with
    | zero =>
      intro a m ha ho hf h
      obtain rfl : a = l.length := by omega
      rw [List.drop_length] at h
      refine lX12_wantingMany_51 (keep m ho).1 (ipos (nI_le (Nat.le_refl _) (by omega)) ?_)
      exact L3 l.length 0 m (by omega) ho hf h
    | succ k ih =>
      intro a m ha ho hf h
      obtain ⟨p, hp, v1, v2, v3⟩ := at_ a (by omega)
      rw [drop_at hp] at h
      refine lX12_wantingMany_51 (keep m ho).1 (ineg (nI_ge (by omega) (by omega)) ?_)
      rw [nI_1]
      have h : wantA U N = (match (match seekW (allA U N) 1 (l.drop (a + 1)) (0 ||| 2 ^ pr (p / 8) (p % 8)) with | some r => some (p :: r) | none => seekW (allA U N) 2 (l.drop (a + 1)) 0) with | some r => some r | none => seekW (allA U N) 3 l 0) := h
      rw [Nat.zero_or] at h
      have L2b : ∀ (k' b : Nat) (m : mm_M), b + k' = l.length → a < b → offM wW M m → mFr l m → seekW (allA U N) 1 (l.drop (a + 1)) (2 ^ pr (p / 8) (p % 8)) = seekW (allA U N) 1 (l.drop b) (2 ^ pr (p / 8) (p % 8)) → jX12_wantingMany_60 (d + 6) m K (nI l.length) (nI a) (nI b) := by
        intro k'
        induction k' with
        | zero =>
          intro b m hb hab ho hf hs
          obtain rfl : b = l.length := by omega
          rw [List.drop_length] at hs
          have hs : seekW (allA U N) 1 (l.drop (a + 1)) (2 ^ pr (p / 8) (p % 8)) = none := hs
          rw [hs] at h
          refine lX12_wantingMany_60 (keep m ho).1 (ipos (nI_le (Nat.le_refl _) (by omega)) ?_)
          rw [nI_1]
          exact ih (a + 1) m (by omega) ho hf h
        | succ k' ih' =>
          intro b m hb hab ho hf hs
          obtain ⟨q, hq, u1, u2, u3⟩ := at_ b (by omega)
          rw [drop_at hq] at hs
          have hs : seekW (allA U N) 1 (l.drop (a + 1)) (2 ^ pr (p / 8) (p % 8)) = match (if allA U N (2 ^ pr (p / 8) (p % 8) ||| 2 ^ pr (q / 8) (q % 8)) then some [] else none) with | some r => some (q :: r) | none => seekW (allA U N) 1 (l.drop (b + 1)) (2 ^ pr (p / 8) (p % 8)) := hs
          refine lX12_wantingMany_60 (keep m ho).1 (ineg (nI_ge (by omega) (by omega)) ?_)
          rw [w0, w1]
          have o1 : offM (fun c _ => c = 210) m (mm_uI (mm_uI m 210 0 (nI a)) 210 1 (nI b)) := offM_tr (offM_uI rfl) (offM_uI rfl)
          have g0 : (mm_uI (mm_uI m 210 0 (nI a)) 210 1 (nI b)).1 210 0 = nI a := by rw [uI_j (by decide), uI_at]
          have g1 : (mm_uI (mm_uI m 210 0 (nI a)) 210 1 (nI b)).1 210 1 = nI b := by rw [uI_at]
          generalize mm_uI (mm_uI m 210 0 (nI a)) 210 1 (nI b) = m1 at o1 g0 g1 ⊢
          have ho1 : offM wW M m1 := offM_tr ho (offM_mono o1 (fun c j q => by unfold wW; omega))
          have hf1 : mFr l m1 := mFr_off hf o1 (fun c j q => by omega)
          refine m_bitOf (d := d + 5) (keep m1 ho1).1 lv hf1 hp (m_bitOf (d := d + 5) (keep m1 ho1).1 lv hf1 hq ?_)
          rw [or2 _ v3 _ u3]
          refine eatK m1 _ _ ho1 hf1 (Nat.or_lt_two_pow (Nat.pow_lt_pow_right (by omega) v3) (Nat.pow_lt_pow_right (by omega) u3)) (fun m2 ho2 hf2 h210 => ?_)
          by_cases ca : allA U N (2 ^ pr (p / 8) (p % 8) ||| 2 ^ pr (q / 8) (q % 8)) = true
          · rw [if_pos ca] at hs ⊢
            refine ineg (by decide) (hK m2 2 ho2 ?_)
            have hs : seekW (allA U N) 1 (l.drop (a + 1)) (2 ^ pr (p / 8) (p % 8)) = some [q] := hs
            rw [hs] at h
            have h : wantA U N = some [p, q] := h
            unfold wantM
            rw [h]
            refine ⟨rfl, by simp, fun k3 p3 hp3 => ?_⟩
            rw [h210]
            match k3, hp3 with
            | 0, hp3 =>
              have : p = p3 := by simpa using hp3
              subst this
              exact ⟨v1, v2, a, by omega, g0, hf2 a p hp⟩
            | 1, hp3 =>
              have : q = p3 := by simpa using hp3
              subst this
              exact ⟨u1, u2, b, by omega, g1, hf2 b q hq⟩
            | k3 + 2, hp3 => simp at hp3
          · rw [if_neg ca] at hs ⊢
            refine ipos rfl ?_
            rw [nI_1]
            exact ih' (b + 1) m2 (by omega) (by omega) ho2 hf2 hs
      exact L2b (l.length - (a + 1)) (a + 1) m (by omega) (by omega) ho hf rfl
  -- one pair
  have L1 : ∀ (k a : Nat) (m : mm_M), a + k = l.length → offM wW M m → mFr l m → wantA U N = (match seekW (allA U N) 1 (l.drop a) 0 with | some r => some r | none => (match seekW (allA U N) 2 l 0 with | some r => some r | none => seekW (allA U N) 3 l 0)) → jX12_wantingMany_17 (d + 6) m K (nI l.length) (nI a) := by
    intro k
    induction k with
    | zero =>
      intro a m ha ho hf h
      obtain rfl : a = l.length := by omega
      rw [List.drop_length] at h
      refine lX12_wantingMany_17 (keep m ho).1 (ipos (nI_le (Nat.le_refl _) (by omega)) ?_)
      exact L2 l.length 0 m (by omega) ho hf h
    | succ k ih =>
      intro a m ha ho hf h
      obtain ⟨p, hp, v1, v2, v3⟩ := at_ a (by omega)
      rw [drop_at hp] at h
      have h : wantA U N = (match (match (if allA U N (0 ||| 2 ^ pr (p / 8) (p % 8)) then some [] else none) with | some r => some (p :: r) | none => seekW (allA U N) 1 (l.drop (a + 1)) 0) with | some r => some r | none => (match seekW (allA U N) 2 l 0 with | some r => some r | none => seekW (allA U N) 3 l 0)) := h
      rw [Nat.zero_or] at h
      refine lX12_wantingMany_17 (keep m ho).1 (ineg (nI_ge (by omega) (by omega)) ?_)
      rw [w0]
      have o1 : offM (fun c _ => c = 210) m (mm_uI m 210 0 (nI a)) := offM_uI rfl
      have g0 : (mm_uI m 210 0 (nI a)).1 210 0 = nI a := uI_at _ _ _ _
      generalize mm_uI m 210 0 (nI a) = m1 at o1 g0 ⊢
      have ho1 : offM wW M m1 := offM_tr ho (offM_mono o1 (fun c j q => by unfold wW; omega))
      have hf1 : mFr l m1 := mFr_off hf o1 (fun c j q => by omega)
      refine m_bitOf (d := d + 5) (keep m1 ho1).1 lv hf1 hp ?_
      refine eatK m1 _ _ ho1 hf1 (Nat.pow_lt_pow_right (by omega) v3) (fun m2 ho2 hf2 h210 => ?_)
      by_cases ca : allA U N (2 ^ pr (p / 8) (p % 8)) = true
      · rw [if_pos ca] at h ⊢
        refine ineg (by decide) (hK m2 1 ho2 ?_)
        have h : wantA U N = some [p] := h
        unfold wantM
        rw [h]
        refine ⟨rfl, by simp, fun k3 p3 hp3 => ?_⟩
        rw [h210]
        match k3, hp3 with
        | 0, hp3 =>
          have : p = p3 := by simpa using hp3
          subst this
          exact ⟨v1, v2, a, by omega, g0, hf2 a p hp⟩
        | k3 + 1, hp3 => simp at hp3
      · rw [if_neg ca] at h ⊢
        refine ipos rfl ?_
        rw [nI_1]
        exact ih (a + 1) m2 (by omega) ho2 hf2 h
  refine eatK m0 0 _ ho0 f0 (by decide) (fun m1 ho1 hf1 _ => ?_)
  have hw' : wantA U N = (match (if allA U N 0 then some [] else none) with | some r => some r | none => (match seekW (allA U N) 1 l 0 with | some r => some r | none => (match seekW (allA U N) 2 l 0 with | some r => some r | none => (match seekW (allA U N) 3 l 0 with | some r => some r | none => none)))) := hw
  have e3 : (match seekW (allA U N) 3 l 0 with | some r => some r | none => none) = seekW (allA U N) 3 l 0 := by cases seekW (allA U N) 3 l 0 <;> rfl
  rw [e3] at hw'
  by_cases ca : allA U N 0 = true
  · rw [if_pos ca] at hw' ⊢
    refine ineg (by decide) (hK m1 0 ho1 ?_)
    have hw' : wantA U N = some [] := hw'
    unfold wantM
    rw [hw']
    exact ⟨rfl, by simp, fun k p hp => by simp at hp⟩
  · rw [if_neg ca] at hw' ⊢
    exact ipos rfl (L1 l.length 0 m1 (by omega) ho1 hf1 hw')
