/-! ===== days in thought ===== -/
theorem nextD_in {x : Int32} (h : inI 0 1100 x) : inI 0 1100 (nextD x) := by
  unfold nextD
  by_cases c : 999 ≤ x
  · rw [if_pos c]; exact h
  · rw [if_neg c]
    have e : (x + 1).toInt = x.toInt + 1 := i32_add h (by omega) (y := 1) (c := 1) (d := 1) (by unfold inI; decide) (by omega)
    have c' := mt i32_le.mpr c
    have e9 : (999 : Int32).toInt = 999 := rfl
    unfold inI at *
    omega
theorem dayC_v {U : dU} {N : dN} {rest : Nat} (hU : vU U) (h : vN U N) : vN U (dayC U N rest) := by
  have hv := dayA_v (rest := rest) hU h
  exact ⟨nextD_in h.1, hv.2⟩
theorem dayM_v {U : dU} {N : dN} {rest : Nat} (hU : vU U) (h : vN U N) (hd : N.1.toInt < 1100) : vN U (dayM U N rest) := by
  have hv := dayA_v (rest := rest) hU h
  have e : (N.1 + 1).toInt = N.1.toInt + 1 := i32_add h.1 (by omega) (y := 1) (c := 1) (d := 1) (by unfold inI; decide) (by omega)
  refine ⟨?_, hv.2⟩
  have := h.1
  show inI 0 1100 (N.1 + 1)
  unfold inI at *
  omega
theorem dayC_M {U : dU} {N : dN} {rest : Nat} (hd : N.1.toInt < 999) : dayC U N rest = dayM U N rest := by
  unfold dayC dayM nextD
  rw [if_neg (fun q => by have := i32_le.mp q; have e9 : (999 : Int32).toInt = 999 := rfl; omega)]
def daysC (U : dU) (rest : Nat) : Nat → dN → dN
  | 0, N => N
  | n + 1, N => dayC U (daysC U rest n N) rest
def daysM (U : dU) (rest : Nat) : Nat → dN → dN
  | 0, N => N
  | n + 1, N => dayM U (daysM U rest n N) rest
theorem daysC_v {U : dU} {rest : Nat} (hU : vU U) {N : dN} (h : vN U N) : ∀ n, vN U (daysC U rest n N)
  | 0 => h
  | n + 1 => dayC_v hU (daysC_v hU h n)
theorem daysC_day {U : dU} {rest : Nat} {N : dN} (h : inI 0 999 N.1) : ∀ n : Nat, N.1.toInt + n ≤ 999 → (daysC U rest n N).1.toInt = N.1.toInt + n
  | 0, _ => by show N.1.toInt = _; omega
  | n + 1, hn => by
    have ih := daysC_day (U := U) (rest := rest) h n (by omega)
    show (nextD (daysC U rest n N).1).toInt = _
    unfold nextD
    have e9 : (999 : Int32).toInt = 999 := rfl
    rw [if_neg (fun q => by have := i32_le.mp q; omega), Int32.toInt_add, ih]
    unfold inI at h
    show (N.1.toInt + n + 1 : Int).bmod _ = _
    rw [bm32 (by omega) (by omega)]
    omega
theorem daysC_M {U : dU} {rest : Nat} {N : dN} (h : inI 0 999 N.1) : ∀ n : Nat, N.1.toInt + n ≤ 999 → daysC U rest n N = daysM U rest n N
  | 0, _ => rfl
  | n + 1, hn => by
    have ih := daysC_M (U := U) (rest := rest) h n (by omega)
    have hd := daysC_day (U := U) (rest := rest) h n (by omega)
    show dayC U (daysC U rest n N) rest = dayM U (daysM U rest n N) rest
    rw [dayC_M (by omega), ih]
theorem daysM_v {U : dU} {rest : Nat} (hU : vU U) {N : dN} (h : vN U N) (hd : inI 0 999 N.1) : ∀ n : Nat, n ≤ 100 → vN U (daysM U rest n N) ∧ (daysM U rest n N).1.toInt = N.1.toInt + n
  | 0, _ => ⟨h, by show N.1.toInt = _; omega⟩
  | n + 1, hn => by
    obtain ⟨h1, h2⟩ := daysM_v (rest := rest) hU h hd n (by omega)
    unfold inI at hd
    have hlt : (daysM U rest n N).1.toInt < 1100 := by omega
    refine ⟨dayM_v hU h1 hlt, ?_⟩
    show ((daysM U rest n N).1 + 1).toInt = _
    rw [Int32.toInt_add, h2]
    show (N.1.toInt + n + 1 : Int).bmod _ = _
    rw [bm32 (by omega) (by omega)]
    omega
theorem daysC_th {U : dU} {rest : Nat} {N : dN} (vu : vU U) (vn : vN U N) (n h : Nat) (hb : (daysC U rest (n + 1) N).2.1.testBit h = true) (h7 : h < 7) : (daysC U rest n N).2.1.testBit h = true := by
  have e : (daysC U rest (n + 1) N).2.1 = (dayA U (daysC U rest n N) rest).2.1 := rfl
  rw [e] at hb
  unfold dayA at hb
  rw [growA_d.2, coolA_d.2] at hb
  have hs : ∀ (l : List Nat) (X : dN), vN U X → (l.foldl (starveS U) X).2.1.testBit h = true → X.2.1.testBit h = true := by
    intro l
    induction l with
    | nil => intro X _ q; exact q
    | cons i l ih =>
      intro X vx q
      rw [List.foldl_cons] at q
      have q := ih (starveS U X i) (starveS_v vu vx) q
      unfold starveS at q
      by_cases c : (X.2.1.testBit i && starvesA U X i) = true
      · rw [if_pos c] at q
        have hbi := (Bool.and_eq_true_iff.mp c).1
        have hi7 : i < 7 := by have := bit_lt vx hbi; have := vu.2.1; omega
        have q : (X.2.1 - (if X.2.1.testBit i then 2 ^ i else 0)).testBit h = true := q
        rw [clr_bit _ (vN_lt vu vx) i hi7 h h7] at q
        exact (Bool.and_eq_true_iff.mp q).1
      · rw [if_neg c] at q; exact q
  have := hs (List.range' 0 7) (serveA U (daysC U rest n N) rest).1 (serveA_v vu (daysC_v vu vn n)) hb
  rw [serveA_d.2.1] at this
  exact this
/-! copyFrom -/
theorem cp_at {M : mm_M} {a0 a1 n j : Nat} (h : j < n) : (mm_cp M a0 a1 0 0 n).1 a1 j = M.1 a0 j := by
  show va_up M.1 a1 (va_cpy (M.1 a0) (M.1 a1) 0 0 n) a1 j = _
  rw [va_up_self, pk_cpy_in (Nat.zero_le _) (by omega), Nat.zero_add, Nat.sub_zero]
theorem cp_c {M : mm_M} {a0 a1 sp dp n c : Nat} (h : c ≠ a1) : (mm_cp M a0 a1 sp dp n).1 c = M.1 c := va_up_ne _ _ h
theorem offM_cp {W : Nat → Nat → Prop} {M : mm_M} {a0 a1 sp dp n : Nat} (hW : ∀ j, W a1 j) : offM W M (mm_cp M a0 a1 sp dp n) := by
  refine ⟨fun c j q => ?_, fun _ _ _ => rfl, rfl⟩
  by_cases h : c = a1
  · subst h; exact absurd (hW j) q
  · rw [cp_c h]
theorem St_ne {a b : Nat} (ha : a ∈ mm_Sts) (hb : b ∈ mm_Sts) (h : a ≠ b) : a + 4 < b ∨ b + 4 < a := (by decide +kernel : ∀ a ∈ mm_Sts, ∀ b ∈ mm_Sts, a ≠ b → a + 4 < b ∨ b + 4 < a) a ha b hb h
def wCp (a c _j : Nat) : Prop := a ≤ c ∧ c ≤ a + 4
theorem c_copyFrom {d a b : Nat} {N : dN} {M : mm_M} {K : mm_M → Prop} (ha : a ∈ mm_Sts) (hb : b ∈ mm_Sts) (hne : a ≠ b) (hG : mm_G M.2.2) (hN : cN b N M) (hK : ∀ m, offM (wCp a) M m → cN a N m → (∀ L B, cK b L B M → cK a L B m) → K m) : mm_CV mX9_copyFrom (d + 1) [.ref a, .ref b] M K := by
  have hs := St_ne ha hb hne
  refine rX9_copyFrom ha hb hG ?_
  have t0 : (0 : Int32).toNatClampNeg = 0 := rfl
  have t7 : (7 : Int32).toNatClampNeg = 7 := rfl
  have t64 : (64 : Int32).toNatClampNeg = 64 := rfl
  have t40 : (40 : Int32).toNatClampNeg = 40 := rfl
  rw [t0, t7, t64, t40, uI_c (c := b) (by omega), uI_c (c := b) (by omega), uI_c (c := b) (by omega)]
  refine hK _ ?_ ?_ ?_
  · refine offM_tr (offM_tr (offM_tr (offM_tr (offM_tr (offM_tr (offM_uI ?_) (offM_uI ?_)) (offM_uI ?_)) (offM_cp ?_)) (offM_cp ?_)) (offM_cp ?_)) (offM_cp ?_) <;> first | (intro j; unfold wCp; omega) | (unfold wCp; omega)
  · obtain ⟨h1, h2, h3, h4, h5⟩ := hN
    refine ⟨?_, ?_, fun h hh => ?_, fun h hh => ?_, fun h k hh hk => ?_⟩
    · rw [cp_c (by omega), cp_c (by omega), cp_c (by omega), cp_c (by omega), uI_j (by decide), uI_j (by decide), uI_at]; exact h1
    · rw [cp_c (by omega), cp_c (by omega), cp_c (by omega), cp_c (by omega), uI_j (by decide), uI_at]; exact h2
    · rw [cp_c (by omega), cp_c (by omega), cp_c (by omega), cp_at hh, uI_c (by omega), uI_c (by omega), uI_c (by omega)]; exact h3 h hh
    · rw [cp_c (by omega), cp_c (by omega), cp_at hh, cp_c (by omega), uI_c (by omega), uI_c (by omega), uI_c (by omega)]; exact h4 h hh
    · rw [cp_c (by omega), cp_at (by omega), cp_c (by omega), cp_c (by omega), uI_c (by omega), uI_c (by omega), uI_c (by omega)]; exact h5 h k hh hk
  · intro L B hL
    obtain ⟨n, q1, q2, q3, q4⟩ := hL
    refine ⟨n, ?_, q2, q3, fun k q hq => ?_⟩
    · rw [cp_c (by omega), cp_c (by omega), cp_c (by omega), cp_c (by omega), uI_at]; exact q1
    · rw [cp_at (Nat.mod_lt _ (by decide)), cp_c (by omega), cp_c (by omega), cp_c (by omega), uI_c (by omega), uI_c (by omega), uI_c (by omega)]; exact q4 k q hq
/-! putsAside, triesAnew, takesBack -/
def asd (f : Nat → Int32) (m : mm_M) : Prop := ∀ j, j < 43 → m.1 200 j = f j
theorem asd_off {W : Nat → Nat → Prop} {f : Nat → Int32} {M m : mm_M} (h : asd f M) (ho : offM W M m) (hW : ∀ c j, W c j → ¬ c = 200) : asd f m := fun j hj => by rw [ho.1 _ _ (fun q => hW _ _ q rfl)]; exact h j hj
def wPa (c j : Nat) : Prop := c = 200 ∨ (c = 164 ∧ j = 57)
theorem m_putsAside {d : Nat} {M : mm_M} {K : mm_M → Prop} (hG : mm_G M.2.2) (hK : ∀ m, offM wPa M m → m.1 164 57 = 1 → asd (M.1 199) m → K m) : mm_CV mX12_putsAside d [.ref 164] M K := by
  refine rX12_putsAside hG ?_
  have loop : ∀ (k i : Nat) (m : mm_M), i + k = 43 → offM wPa M m → m.1 164 57 = 1 → (∀ j, j < i → m.1 200 j = M.1 199 j) → jX12_putsAside_7 d m K (nI i) := by
    intro k
    induction k with
    | zero =>
      intro i m hi ho h57 h
      obtain rfl : i = 43 := by omega
      exact lX12_putsAside_7 (by rw [ho.2.2]; exact hG) (ipos (by decide) (hK m ho h57 h))
    | succ k ih =>
      intro i m hi ho h57 h
      refine lX12_putsAside_7 (by rw [ho.2.2]; exact hG) (ineg (nI_ge (b := 43) (by omega) (by decide)) ⟨vp_in_nI (by omega) (by decide), vp_in_nI (by omega) (by decide), ?_⟩)
      rw [nI_1, nI_clamp (by omega), ho.1 199 i (by unfold wPa; omega)]
      refine ih (i + 1) _ (by omega) (offM_tr ho (offM_uI (Or.inl rfl))) (by rw [uI_c (by decide)]; exact h57) (fun j hj => ?_)
      by_cases c : j = i
      · subst c; exact uI_at _ _ _ _
      · rw [uI_j c]; exact h j (by omega)
  exact loop 43 0 _ (by omega) (offM_uI (Or.inr ⟨rfl, rfl⟩)) (uI_at _ _ _ _) (fun j hj => by omega)
theorem m_triesAnew {d : Nat} {f : Nat → Int32} {M : mm_M} {K : mm_M → Prop} (hG : mm_G M.2.2) (hA : asd f M) (hK : ∀ m, offM wN M m → (∀ j, j < 43 → m.1 199 j = f j) → K m) : mm_CV mX12_triesAnew d [.ref 164] M K := by
  refine rX12_triesAnew hG ?_
  have loop : ∀ (k i : Nat) (m : mm_M), i + k = 43 → offM wN M m → (∀ j, j < i → m.1 199 j = f j) → jX12_triesAnew_2 d m K (nI i) := by
    intro k
    induction k with
    | zero =>
      intro i m hi ho h
      obtain rfl : i = 43 := by omega
      exact lX12_triesAnew_2 (by rw [ho.2.2]; exact hG) (ipos (by decide) (hK m ho h))
    | succ k ih =>
      intro i m hi ho h
      refine lX12_triesAnew_2 (by rw [ho.2.2]; exact hG) (ineg (nI_ge (b := 43) (by omega) (by decide)) ⟨vp_in_nI (by omega) (by decide), vp_in_nI (by omega) (by decide), ?_⟩)
      rw [nI_1, nI_clamp (by omega), ho.1 200 i (by unfold wN; omega), hA i (by omega)]
      refine ih (i + 1) _ (by omega) (offM_tr ho (offM_uI ⟨rfl, by omega⟩)) (fun j hj => ?_)
      by_cases c : j = i
      · subst c; exact uI_at _ _ _ _
      · rw [uI_j c]; exact h j (by omega)
  exact loop 43 0 M (by omega) offM_rf (fun j hj => by omega)
def wTb (c j : Nat) : Prop := (c = 199 ∧ j < 43) ∨ (c = 164 ∧ (j = 57 ∨ j = 59))
theorem m_takesBack {d : Nat} {f : Nat → Int32} {M : mm_M} {K : mm_M → Prop} (hG : mm_G M.2.2) (hA : asd f M) (hK : ∀ m, offM wTb M m → (∀ j, j < 43 → m.1 199 j = f j) → m.1 164 57 = 0 → m.1 164 59 = nI 0 → K m) : mm_CV mX12_takesBack (d + 1) [.ref 164] M K := by
  refine rX12_takesBack hG (m_triesAnew hG hA (fun m o h => ?_))
  refine hK _ (offM_tr (offM_tr (offM_mono o (fun c j q => Or.inl q)) (offM_uI (by unfold wTb; omega))) (offM_uI (by unfold wTb; omega))) (fun j hj => ?_) (uI_at _ _ _ _) ?_
  · rw [uI_c (by decide), uI_c (by decide)]; exact h j hj
  · rw [uI_j (by decide), uI_at]; rfl
/-! days of the reference -/
def runM (t : Bool) (U : dU) (rest : Nat) : Nat → dN × List dQ × Nat → dN × List dQ × Nat
  | 0, X => X
  | n + 1, X => (dayM U (runM t U rest n X).1 rest, keptA t (runM t U rest n X).2.1 (runM t U rest n X).1.1 (serveA U (runM t U rest n X).1 rest).2.2.2, (runM t U rest n X).2.2 + (serveA U (runM t U rest n X).1 rest).2.2.2.length)
theorem runM_1 {t : Bool} {U : dU} {rest : Nat} {X : dN × List dQ × Nat} : ∀ n, (runM t U rest n X).1 = daysM U rest n X.1
  | 0 => rfl
  | n + 1 => by
    show dayM U (runM t U rest n X).1 rest = dayM U (daysM U rest n X.1) rest
    rw [runM_1 n]
theorem runM_th {U : dU} {rest : Nat} {X : dN × List dQ × Nat} : ∀ n, (runM false U rest n X).2.1 = X.2.1
  | 0 => rfl
  | n + 1 => by
    show keptA false (runM false U rest n X).2.1 (runM false U rest n X).1.1 (serveA U (runM false U rest n X).1 rest).2.2.2 = X.2.1
    unfold keptA
    exact runM_th n
theorem m_daysGo {d n rest c0 : Nat} {th : Bool} {L : List dQ} {U : dU} {N : dN} {M : mm_M} {K : mm_M → Prop} (hG : mm_G M.2.2) (hU : mU U M) (hN : mN N M) (vu : vU U) (vn : vN U N) (hd : inI 0 999 N.1) (hn : n ≤ 100) (hr : rest < 128) (h59 : M.1 164 59 = nI rest) (hth : M.1 164 57 = if th then 1 else 0) (hL : mK L M) (h58 : M.1 164 58 = nI c0) (hK : ∀ m, offM wE M m → mN (daysM U rest n N) m → mK (runM (!th) U rest n (N, L, c0)).2.1 m → m.1 164 58 = nI (runM (!th) U rest n (N, L, c0)).2.2 → K m) : mm_CV mX12_daysGo (d + 12) [.ref 164, .int (nI n)] M K := by
  refine rX12_daysGo hG ?_
  have loop : ∀ (k i : Nat) (m : mm_M), i + k = n → offM wE M m → mN (daysM U rest i N) m → mK (runM (!th) U rest i (N, L, c0)).2.1 m → m.1 164 58 = nI (runM (!th) U rest i (N, L, c0)).2.2 → jX12_daysGo_2 (d + 11) (nI n) m K (nI n) (nI i) := by
    intro k
    induction k with
    | zero =>
      intro i m hi ho n1 k1 c1
      obtain rfl : i = n := by omega
      exact lX12_daysGo_2 (by rw [ho.2.2]; exact hG) (ipos (nI_le (Nat.le_refl _) (by omega)) (hK m ho n1 k1 c1))
    | succ k ih =>
      intro i m hi ho n1 k1 c1
      have hGm : mm_G m.2.2 := by rw [ho.2.2]; exact hG
      have v1 := (daysM_v (rest := rest) vu vn hd i (by omega)).1
      refine lX12_daysGo_2 hGm (ineg (nI_ge (by omega) (by omega)) ?_)
      refine m_dayGoes (rest := rest) (th := th) (L := (runM (!th) U rest i (N, L, c0)).2.1) hGm (mU_off hU ho (fun c j q => by unfold wE wA at q; omega)) n1 vu v1 hr (by rw [ho.1 _ _ (by unfold wE wA; omega)]; exact h59) (by rw [ho.1 _ _ (by unfold wE wA; omega)]; exact hth) k1 (fun m1 R1 => ?_)
      obtain ⟨o1, n2, -, -, c2, k2⟩ := R1
      rw [nI_1]
      refine ih (i + 1) m1 (by omega) (offM_tr ho o1) n2 ?_ ?_
      · show mK (keptA (!th) (runM (!th) U rest i (N, L, c0)).2.1 (runM (!th) U rest i (N, L, c0)).1.1 (serveA U (runM (!th) U rest i (N, L, c0)).1 rest).2.2.2) m1
        rw [runM_1]
        exact k2
      · show m1.1 164 58 = nI ((runM (!th) U rest i (N, L, c0)).2.2 + (serveA U (runM (!th) U rest i (N, L, c0)).1 rest).2.2.2.length)
        rw [runM_1, c2, c1, nI_add]
  exact loop n 0 M (by omega) offM_rf hN hL h58
