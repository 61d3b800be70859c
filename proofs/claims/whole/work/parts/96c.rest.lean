/-! ===== rest ===== -/
/-- days go alike for two sets of those at rest that agree on who is there -/
theorem serve_agree {U : dU} (vu : vU U) {N : dN} (vn : vN U N) {s s' : Nat} (h : ∀ b, N.2.1.testBit b = true → s.testBit b = s'.testBit b) : (serveA U N s).1 = (serveA U N s').1 ∧ (serveA U N s).2.2 = (serveA U N s').2.2 := by
  have key : ∀ (l : List Nat) (S S' : dS), vN U S.1 → S.1.2.1 = N.2.1 → S.1 = S'.1 → S.2.2 = S'.2.2 → (∀ b, N.2.1.testBit b = true → S.2.1.testBit b = S'.2.1.testBit b) → (l.foldl (serveS U) S).1 = (l.foldl (serveS U) S').1 ∧ (l.foldl (serveS U) S).2.2 = (l.foldl (serveS U) S').2.2 := by
    intro l
    induction l with
    | nil => intro S S' _ _ e1 e2 _; exact ⟨e1, e2⟩
    | cons i l ih =>
      intro S S' vs ht e1 e2 hb
      rw [List.foldl_cons, List.foldl_cons]
      have hpick : pickA U S.1 i S.2.1 = pickA U S'.1 i S'.2.1 := by
        unfold pickA
        have : able U S.1 i S.2.1 = able U S'.1 i S'.2.1 := by
          funext b
          unfold able
          rw [← e1]
          by_cases c : 0 < S.1.2.2.2.2 i b
          · have := (vs.2.2.2.2.2.2.2 i b c).2
            rw [ht] at this
            rw [hb b this]
          · simp [c]
        rw [this, ← e1]
      refine ih _ _ (serveS_v vu vs) (serveS_d.2.1.trans ht) ?_ ?_ ?_
      · unfold serveS
        rw [← hpick, ← e1]
        by_cases c : S.1.2.1.testBit i = true
        · rw [if_pos c, if_pos c]
          cases pickA U S.1 i S.2.1 with
          | none => rfl
          | some b => rfl
        · rw [if_neg c, if_neg c]; exact e1
      · unfold serveS
        rw [← hpick, ← e1]
        by_cases c : S.1.2.1.testBit i = true
        · rw [if_pos c, if_pos c]
          cases pickA U S.1 i S.2.1 with
          | none => exact e2
          | some b =>
            show (setF S.2.2.1 i (some (b, tasteA U S.1 b i)), S.2.2.2 ++ [(b, i, tasteA U S.1 b i)]) = (setF S'.2.2.1 i (some (b, tasteA U S.1 b i)), S'.2.2.2 ++ [(b, i, tasteA U S.1 b i)])
            rw [e2]
        · rw [if_neg c, if_neg c]; exact e2
      · intro x hx
        unfold serveS
        rw [← hpick, ← e1]
        by_cases c : S.1.2.1.testBit i = true
        · rw [if_pos c, if_pos c]
          cases pickA U S.1 i S.2.1 with
          | none => exact hb x hx
          | some b =>
            show (S.2.1 ||| 2 ^ b).testBit x = (S'.2.1 ||| 2 ^ b).testBit x
            rw [Nat.testBit_or, Nat.testBit_or, hb x hx]
        · rw [if_neg c, if_neg c]; exact hb x hx
  exact key (List.range' 0 7) (N, s, fun _ => none, []) (N, s', fun _ => none, []) vn rfl rfl rfl h
theorem days_agree {U : dU} (vu : vU U) {N : dN} (vn : vN U N) {s s' : Nat} (h : ∀ b, N.2.1.testBit b = true → s.testBit b = s'.testBit b) : ∀ n, daysC U s n N = daysC U s' n N
  | 0 => rfl
  | n + 1 => by
    have ih := days_agree vu vn h n
    show dayC U (daysC U s n N) s = dayC U (daysC U s' n N) s'
    rw [ih]
    have hv := daysC_v (rest := s') vu vn n
    have hsub : ∀ b, (daysC U s' n N).2.1.testBit b = true → s.testBit b = s'.testBit b := fun b hb => by
      have h7 : b < 7 := by have := bit_lt hv hb; have := vu.2.1; omega
      refine h b (daysC_sub (rest := s') vu vn (i := 0) h7 n ?_)
      rw [Nat.zero_add]; exact hb
    obtain ⟨e1, e2⟩ := serve_agree vu hv hsub
    unfold dayC dayA
    rw [e1, e2]
/-- how hungry a house is behind n days, if those of a set don't bake -/
def hunA (U : dU) (N : dN) (n s h : Nat) : Int32 := if (daysC U s n N).2.1.testBit h then (daysC U s n N).2.2.2.1 h else 10
def restS (U : dU) (N : dN) (n s : Nat) : Prop := ∀ h, N.2.1.testBit h = true → hunA U N n s h ≤ hunA U N n (s ^^^ 2 ^ h) h
/-- the least set at rest of those that are there; none -/
def restP (U : dU) (N : dN) (n : Nat) (o : Option Nat) : Prop := match o with
  | some b => b &&& N.2.1 = b ∧ restS U N n b ∧ ∀ s, s &&& N.2.1 = s → restS U N n s → pop b < pop s ∨ (pop b = pop s ∧ b ≤ s)
  | none => ∀ s, s &&& N.2.1 = s → ¬ restS U N n s
theorem restP_uniq {U : dU} {N : dN} {n : Nat} {o o' : Option Nat} (h : restP U N n o) (h' : restP U N n o') : o = o' := by
  match o, o', h, h' with
  | none, none, _, _ => rfl
  | none, some b, h, h' => exact absurd h'.2.1 (h b h'.1)
  | some b, none, h, h' => exact absurd h.2.1 (h' b h.1)
  | some b, some b', h, h' =>
    have h1 := h.2.2 b' h'.1 h'.2.1
    have h2 := h'.2.2 b h.1 h.2.1
    congr 1
    omega
theorem and_lt {s t : Nat} (h : s &&& t = s) (ht : t < 128) : s < 128 := by rw [← h]; exact Nat.lt_of_le_of_lt Nat.and_le_right ht
set_option maxRecDepth 100000 in
theorem and_i : ∀ s, s < 128 → ∀ t, t < 128 → ((nI s &&& (nI t ^^^ (-1))) = 0 ↔ s &&& t = s) := by decide +kernel
set_option maxRecDepth 100000 in
theorem pop_and : ∀ s, s < 128 → ∀ t, t < 128 → pop (s &&& t) ≤ pop s ∧ (pop (s &&& t) = pop s → s &&& t = s) ∧ (s &&& t) &&& t = s &&& t := by decide +kernel
theorem xor_sub : ∀ s, s < 128 → ∀ h, h < 7 → s ^^^ 2 ^ h < 128 ∧ (s.testBit h = false → pop (s ^^^ 2 ^ h) = pop s + 1) ∧ (s.testBit h = true → pop (s ^^^ 2 ^ h) + 1 = pop s) := by decide +kernel
theorem xor_and {s t h : Nat} (hs : s &&& t = s) (ht : t.testBit h = true) : (s ^^^ 2 ^ h) &&& t = s ^^^ 2 ^ h := by
  apply Nat.eq_of_testBit_eq
  intro j
  have hj : s.testBit j = (s.testBit j && t.testBit j) := by rw [← Nat.testBit_and, hs]
  rw [Nat.testBit_and, Nat.testBit_xor, Nat.testBit_two_pow]
  by_cases e : h = j
  · subst e; rw [ht]; simp
  · rw [hj]
    cases s.testBit j <;> cases t.testBit j <;> simp [e]
/-! the class -/
def cHu (U : dU) (N : dN) (n s : Nat) (m : mm_M) : Prop := ∀ h, h < 7 → m.1 158 (7 * s + h) = hunA U N n s h
def wHu (c j : Nat) : Prop := wS 42 c j ∨ c = 158
theorem c_goHungry {d r n s : Nat} {U : dU} {N : dN} {M : mm_M} {K : mm_M → Prop} (hG : mm_G M.2.2) (hU : cU r U M) (hN : cN 37 N M) (vu : vU U) (vn : vN U N) (hn : n ≤ 100) (hs : s < 128) (hK : ∀ m, offM wHu M m → cHu U N n s m → (∀ j, ¬ (7 * s ≤ j ∧ j < 7 * s + 7) → m.1 158 j = M.1 158 j) → K m) : mm_CV mX3_goHungry (d + 5) [.ref 156, .ref 21, .ref 37, .ref 42, .int (nI n), .int (nI s)] M K := by
  refine rX3_goHungry st37 st42 hG (c_copyFrom st42 st37 (by decide) hG hN (fun m1 o1 n1 _ => ?_))
  have e7 : nI s * 7 = nI (7 * s) := by
    have : nI s * 7 = nI (s * 7) := pk_mul s 7
    rw [this, Nat.mul_comm]
  have put : ∀ (k h : Nat) (m : mm_M), h + k = 7 → offM wHu M m → cN 42 (daysC U s n N) m → (∀ j, j < h → m.1 158 (7 * s + j) = hunA U N n s j) → (∀ j, ¬ (7 * s ≤ j ∧ j < 7 * s + 7) → m.1 158 j = M.1 158 j) → jX3_goHungry_32 (d + 4) 37 42 (nI n) (nI s) m K (nI s) (nI h) := by
    have hlt := vN_lt vu (daysC_v (rest := s) vu vn n)
    intro k
    induction k with
    | zero =>
      intro h m hh ho hX hj hn'
      obtain rfl : h = 7 := by omega
      exact lX3_goHungry_32 st37 st42 (by rw [ho.2.2]; exact hG) (ipos (by decide) (hK m ho hj hn'))
    | succ k ih =>
      intro h m hh ho hX hj hn'
      have hGm : mm_G m.2.2 := by rw [ho.2.2]; exact hG
      refine lX3_goHungry_32 st37 st42 hGm (ineg (lt7 (by omega)) (ineg (nI_pos (by omega)) (ineg (nI_ge (b := 128) hs (by decide)) (c_isThere st42 hGm hX.2.1 hlt (by omega) ?_))))
      rw [e7, nI_add, nI_clamp (n := 7 * s + h) (by omega), nI_clamp (n := h) (by omega), hX.2.2.2.1 h (by omega), nI_1]
      have go : ∀ x : Int32, x = hunA U N n s h → jX3_goHungry_32 (d + 4) 37 42 (nI n) (nI s) (mm_uI m 158 (7 * s + h) x) K (nI s) (nI (h + 1)) := fun x hx => by
        refine ih (h + 1) _ (by omega) (offM_tr ho (offM_uI (Or.inr rfl))) (cN_off hX (offM_uI (W := fun c _ => c = 158) rfl) (fun c j q => by omega)) (fun j hj2 => ?_) (fun j hj2 => ?_)
        · by_cases c : j = h
          · subst c; rw [uI_at, hx]
          · rw [uI_j (by omega)]; exact hj j (by omega)
        · rw [uI_j (by omega)]; exact hn' j hj2
      by_cases c : (daysC U s n N).2.1.testBit h = true
      · rw [if_pos c]
        exact ineg (by decide) ⟨vp_in_nI (by omega) (by decide), vp_in_nI (by omega) (by decide), go _ (by unfold hunA; rw [if_pos c])⟩
      · rw [if_neg c]
        exact ipos rfl ⟨vp_in_nI (by omega) (by decide), go _ (by unfold hunA; rw [if_neg c])⟩
  have loop : ∀ (k i : Nat) (m : mm_M), i + k = n → offM (wS 42) M m → cN 42 (daysC U s i N) m → jX3_goHungry_8 (d + 4) 37 42 (nI n) (nI s) m K (nI n) (nI s) (nI i) := by
    intro k
    induction k with
    | zero =>
      intro i m hi ho hX
      obtain rfl : i = n := by omega
      refine lX3_goHungry_8 st37 st42 (by rw [ho.2.2]; exact hG) (ipos (nI_le (Nat.le_refl _) (by omega)) ?_)
      exact put 7 0 m (by omega) (offM_mono ho (fun c j q => Or.inl q)) hX (fun j hj => by omega) (fun j _ => ho.1 _ _ (by unfold wS; omega))
    | succ k ih =>
      intro i m hi ho hX
      have hGm : mm_G m.2.2 := by rw [ho.2.2]; exact hG
      refine lX3_goHungry_8 st37 st42 hGm (ineg (nI_ge (by omega) (by omega)) ?_)
      refine c_run (rest := s) (t := false) st42 hGm (cU_off hU ho (fun c j q => by unfold wS at q; omega)) hX vu (daysC_v vu vn i) hs (fun m3 R => ?_)
      rw [nI_1]
      exact ih (i + 1) m3 (by omega) (offM_tr ho R.1) R.2.1
  exact loop n 0 m1 (by omega) (offM_mono o1 (fun c j q => by unfold wCp at q; unfold wS; omega)) n1
theorem c_isAtRest {d s n : Nat} {U : dU} {N : dN} {M : mm_M} {K : Int32 → mm_M → Prop} (hG : mm_G M.2.2) (hN : cN 37 N M) (hth : N.2.1 < 128) (hs : s < 128) (hH : cHu U N n s M) (hO : ∀ h, h < 7 → N.2.1.testBit h = true → cHu U N n (s ^^^ 2 ^ h) M) (h1 : restS U N n s → K 1 M) (h0 : ¬ restS U N n s → K 0 M) : mm_CI mX3_isAtRest (d + 1) [.ref 156, .ref 37, .int (nI s)] M K := by
  refine rX3_isAtRest st37 hG ?_
  have e7 : ∀ x, nI x * 7 = nI (7 * x) := fun x => by
    have : nI x * 7 = nI (x * 7) := pk_mul x 7
    rw [this, Nat.mul_comm]
  have loop : ∀ (k h : Nat), h + k = 7 → (∀ j, j < h → N.2.1.testBit j = true → hunA U N n s j ≤ hunA U N n (s ^^^ 2 ^ j) j) → jX3_isAtRest_2 d 37 (nI s) M K (nI s) (nI h) := by
    intro k
    induction k with
    | zero =>
      intro h hh hj
      obtain rfl : h = 7 := by omega
      exact lX3_isAtRest_2 st37 hG (ipos (by decide) (h1 (fun j hb => hj j (hi_bit hth hb) hb)))
    | succ k ih =>
      intro h hh hj
      obtain ⟨x1, -⟩ := xor_sub s hs h (by omega)
      refine lX3_isAtRest_2 st37 hG (ineg (lt7 (by omega)) (c_isThere st37 hG hN.2.1 hth (by omega) ?_))
      rw [nI_1, (bit_xor s hs h (by omega)).1, e7, e7, nI_add, nI_add, nI_clamp (n := 7 * s + h) (by omega), nI_clamp (n := 7 * (s ^^^ 2 ^ h) + h) (by omega)]
      by_cases c : N.2.1.testBit h = true
      · rw [if_pos c, hH h (by omega), hO h (by omega) c h (by omega)]
        refine ineg (by decide) (ineg (nI_pos (by omega)) (ineg (nI_ge (b := 128) hs (by decide)) ⟨vp_in_nI (by omega) (by decide), vp_in_nI (by omega) (by decide), ite_go (fun cl => ih (h + 1) (by omega) (fun j hj2 hb => ?_)) (fun cl => h0 (fun z => cl (z h c)))⟩))
        by_cases e : j = h
        · subst e; exact cl
        · exact hj j (by omega) hb
      · rw [if_neg c]
        refine ipos rfl (ih (h + 1) (by omega) (fun j hj2 hb => ?_))
        by_cases e : j = h
        · subst e; exact absurd hb c
        · exact hj j (by omega) hb
  exact loop 7 0 (by omega) (fun j hj => by omega)
theorem c_restingSet {d r n : Nat} {U : dU} {N : dN} {M : mm_M} {K : Int32 → mm_M → Prop} (hG : mm_G M.2.2) (hU : cU r U M) (hN : cN 37 N M) (vu : vU U) (vn : vN U N) (hn : n ≤ 100) (hK : ∀ m o, offM wHu M m → restP U N n o → K (pickR o) m) : mm_CI mX3_restingSet (d + 6) [.ref 156, .ref 21, .ref 37, .ref 42, .int (nI n)] M K := by
  have hth := vN_lt vu vn
  have st : ∀ m, offM wHu M m → mm_G m.2.2 ∧ cN 37 N m ∧ cU r U m := fun m o => ⟨by rw [o.2.2]; exact hG, cN_off hN o (fun c j q => by unfold wHu wS at q; omega), cU_off hU o (fun c j q => by unfold wHu wS at q; omega)⟩
  have hth' : ∀ m, offM wHu M m → m.1 37 1 = nI N.2.1 := fun m o => (st m o).2.1.2.1
  -- what is laid: all sets below or of a size, within those there
  refine rX3_restingSet st37 st42 hG (c_goHungry (s := 0) hG hU hN vu vn hn (by decide) (fun m0 o0 H0 _ => ?_))
  have hung : ∀ (m : mm_M) (s : Nat) (P : Nat → Prop) (K' : mm_M → Prop), offM wHu M m → (∀ x, P x → cHu U N n x m) → s < 128 → (∀ m', offM wHu M m' → (∀ x, P x ∨ x = s → cHu U N n x m') → K' m') → mm_CV mX3_goHungry (d + 5) [.ref 156, .ref 21, .ref 37, .ref 42, .int (nI n), .int (nI s)] m K' := fun m s P K' o hP hs hk => by
    obtain ⟨w1, w2, w3⟩ := st m o
    refine c_goHungry w1 w3 w2 vu vn hn hs (fun m' o' H' hn' => hk m' (offM_tr o o') (fun x hx => ?_))
    by_cases e : x = s
    · subst e; exact H'
    · rcases hx with hx | hx
      · intro h hh
        rw [hn' _ (by omega)]; exact hP x hx h hh
      · exact absurd hx e
  have outer : ∀ (k size : Nat) (m : mm_M), size + k = 8 → offM wHu M m → (∀ x, x &&& N.2.1 = x → pop x ≤ size → cHu U N n x m) → (∀ x, x &&& N.2.1 = x → pop x < size → ¬ restS U N n x) → jX3_restingSet_13 (d + 5) 37 42 (nI n) m K (nI n) (nI size) := by
    intro k
    induction k with
    | zero =>
      intro size m hk o hP hno
      obtain rfl : size = 8 := by omega
      refine lX3_restingSet_13 st37 st42 (st m o).1 (ipos (by decide) (hK m none o (fun x hx => hno x hx ?_)))
      have := pop_7 x (and_lt hx hth)
      omega
    | succ k ih =>
      intro size m hk o hP hno
      refine lX3_restingSet_13 st37 st42 (st m o).1 (ineg (nI_nlt (a := 7) (by omega) (by decide)) ?_)
      -- the second round: tests
      have tests : ∀ (q s : Nat) (m : mm_M), s + q = 128 → offM wHu M m → (∀ x, x &&& N.2.1 = x → pop x ≤ size + 1 → cHu U N n x m) → (∀ x, x < s → x &&& N.2.1 = x → pop x = size → ¬ restS U N n x) → jX3_restingSet_75 (d + 5) 37 42 (nI n) m K (nI n) (nI size) (nI s) := by
        intro q
        induction q with
        | zero =>
          intro s m hs o hP hn'
          obtain rfl : s = 128 := by omega
          refine lX3_restingSet_75 st37 st42 (st m o).1 (ipos (by decide) ?_)
          rw [nI_1]
          refine ih (size + 1) m (by omega) o hP (fun x hx hp => ?_)
          by_cases e : pop x = size
          · exact hn' x (and_lt hx hth) hx e
          · exact hno x hx (by omega)
        | succ q ihq =>
          intro s m hs o hP hn'
          obtain ⟨w1, w2, w3⟩ := st m o
          have ai := and_i s (by omega) N.2.1 hth
          have skip : (s &&& N.2.1 = s → pop s = size → ¬ restS U N n s) → jX3_restingSet_75 (d + 5) 37 42 (nI n) m K (nI n) (nI size) (nI (s + 1)) := fun hz => ihq (s + 1) m (by omega) o hP (fun x hx1 hx2 hx3 => by
            by_cases e : x = s
            · rw [e] at hx2 hx3 ⊢; exact hz hx2 hx3
            · exact hn' x (by omega) hx2 hx3)
          have ps := pop_7 s (by omega)
          refine lX3_restingSet_75 st37 st42 w1 (ineg (nI_ge (b := 128) (by omega) (by decide)) ?_)
          rw [hth' m o, nI_1]
          refine ite_go (fun c => c_bitCount w1 (by omega) ?_) (fun c => skip (fun z => absurd (ai.mpr z) c))
          have hsub := ai.mp c
          by_cases e : pop s = size
          · refine ipos (by rw [e]) (c_isAtRest w1 w2 hth (by omega) (hP s hsub (by omega)) (fun h hh hb => ?_) (fun hr => ineg (by decide) ?_) (fun hr => ipos rfl (skip (fun _ _ => hr))))
            · obtain ⟨x1, x2, x3⟩ := xor_sub s (by omega) h hh
              refine hP _ (xor_and hsub hb) ?_
              cases hbs : s.testBit h with
              | true => have := x3 hbs; omega
              | false => have := x2 hbs; omega
            · refine hK m (some s) o ⟨hsub, hr, fun x hx hxr => ?_⟩
              by_cases e2 : pop x < size
              · exact absurd hxr (hno x hx e2)
              · by_cases e3 : pop x = size
                · refine Or.inr ⟨by omega, Decidable.byContradiction (fun z => hn' x (by omega) hx e3 hxr)⟩
                · exact Or.inl (by omega)
          · exact ineg (fun z => e ((nI_eq (by omega) (by omega)).mp z)) (skip (fun _ z => absurd z e))
      have lays : ∀ (q s : Nat) (m : mm_M), s + q = 128 → offM wHu M m → (∀ x, x &&& N.2.1 = x → (pop x ≤ size ∨ (pop x = size + 1 ∧ x < s)) → cHu U N n x m) → jX3_restingSet_23 (d + 5) 37 42 (nI n) m K (nI n) (nI size) (nI s) := by
        intro q
        induction q with
        | zero =>
          intro s m hs o hP
          obtain rfl : s = 128 := by omega
          refine lX3_restingSet_23 st37 st42 (st m o).1 (ipos (by decide) ?_)
          exact tests 128 0 m (by omega) o (fun x hx hp => hP x hx (by have := and_lt hx hth; omega)) (fun x hx => by omega)
        | succ q ihq =>
          intro s m hs o hP
          obtain ⟨w1, w2, w3⟩ := st m o
          have ai := and_i s (by omega) N.2.1 hth
          have ps := pop_7 s (by omega)
          have skip : ¬ (s &&& N.2.1 = s ∧ pop s = size + 1) → jX3_restingSet_23 (d + 5) 37 42 (nI n) m K (nI n) (nI size) (nI (s + 1)) := fun hz => ihq (s + 1) m (by omega) o (fun x hx1 hx2 => hP x hx1 (by
            rcases hx2 with h | ⟨h1, h2⟩
            · exact Or.inl h
            · by_cases e : x = s
              · rw [e] at hx1 h1; exact absurd ⟨hx1, h1⟩ hz
              · exact Or.inr ⟨h1, by omega⟩))
          refine lX3_restingSet_23 st37 st42 w1 (ineg (nI_ge (b := 128) (by omega) (by decide)) ?_)
          rw [hth' m o, nI_1, nI_1]
          refine ite_go (fun c => c_bitCount w1 (by omega) ?_) (fun c => skip (fun z => c (ai.mpr z.1)))
          by_cases e : pop s = size + 1
          · refine ipos (by rw [e]) (hung m s (fun x => x &&& N.2.1 = x ∧ (pop x ≤ size ∨ (pop x = size + 1 ∧ x < s))) _ o (fun x hx => hP x hx.1 hx.2) (by omega) (fun m' o' hP' => ihq (s + 1) m' (by omega) o' (fun x hx1 hx2 => hP' x ?_)))
            rcases hx2 with h | ⟨h1, h2⟩
            · exact Or.inl ⟨hx1, Or.inl h⟩
            · by_cases e2 : x = s
              · exact Or.inr e2
              · exact Or.inl ⟨hx1, Or.inr ⟨h1, by omega⟩⟩
          · exact ineg (fun z => e ((nI_eq (by omega) (by omega)).mp z)) (skip (fun z => e z.2))
      exact lays 128 0 m (by omega) o (fun x hx hx2 => hP x hx (by omega))
  refine outer 8 0 m0 (by omega) o0 (fun x hx hp => ?_) (fun x hx hp => by omega)
  have : x = 0 := (pop_lt2 10 (by decide) x (by have := and_lt hx hth; omega) (by have := and_lt hx hth; omega)).2 (by omega)
  subst this; exact H0
