/-! memory: a whole cell of ints replaced -/
def mm_cI (M : mm_M) (a : Nat) (f : Nat → Int32) : mm_M := (va_up M.1 a f, M.2.1, M.2.2)
theorem cI_self (M : mm_M) (a : Nat) (f : Nat → Int32) : (mm_cI M a f).1 a = f := va_up_self _ _ _
theorem cI_ne {M : mm_M} {a c : Nat} {f : Nat → Int32} (h : c ≠ a) : (mm_cI M a f).1 c = M.1 c := va_up_ne _ _ h
theorem cI_2 (M : mm_M) (a : Nat) (f : Nat → Int32) : (mm_cI M a f).2 = M.2 := rfl
theorem uI_cI (M : mm_M) (a k : Nat) (x : Int32) : mm_uI M a k x = mm_cI M a (upd (M.1 a) k x) := rfl
theorem cI_cI (M : mm_M) (a : Nat) (f g : Nat → Int32) : mm_cI (mm_cI M a f) a g = mm_cI M a g := by
  unfold mm_cI
  simp only
  congr 1
  funext c
  by_cases h : c = a
  · rw [h, va_up_self, va_up_self]
  · rw [va_up_ne _ _ h, va_up_ne _ _ h, va_up_ne _ _ h]
theorem cI_id (M : mm_M) (a : Nat) : mm_cI M a (M.1 a) = M := by
  unfold mm_cI
  have : va_up M.1 a (M.1 a) = M.1 := by
    funext c
    by_cases h : c = a
    · rw [h, va_up_self]
    · rw [va_up_ne _ _ h]
  rw [this]
theorem uI_on_cI (M : mm_M) (a k : Nat) (f : Nat → Int32) (x : Int32) : mm_uI (mm_cI M a f) a k x = mm_cI M a (upd f k x) := by
  rw [uI_cI, cI_self, cI_cI]
/-! one token, a row of tokens: over a stack of values, each with a mark 'it is 0 or 1' -/
def e1 (F : Nat → Option Int) (OF : Int → Int → Option Int) (t : Int) (s : List (Int × Bool)) : Option (List (Int × Bool)) :=
  if 10000 ≤ t then (if s.length < 64 then (F (t - 10000).toNat).map (fun v => (v, false) :: s) else none)
  else if 0 ≤ t then (if s.length < 64 then some ((t, decide (t ≤ 1)) :: s) else none)
  else if t ≤ -12 then (match s with
    | [] => none
    | (a, f) :: r => if t = -12 then (if f = true then some ((1 - a, true) :: r) else none) else (OF t a).map (fun v => (v, false) :: r))
  else (match s with
    | (b, g) :: (a, f) :: r => if (t = -8 ∨ t = -9) ∧ ¬ (f = true ∧ g = true) then none else (if -11 ≤ t then some ((jz t a b, decide (t ≤ -5 ∧ -9 ≤ t)) :: r) else none)
    | _ => none)
def evl (F : Nat → Option Int) (OF : Int → Int → Option Int) : List Int → List (Int × Bool) → Option (List (Int × Bool))
  | [], s => some s
  | t :: ts, s => (e1 F OF t s).bind (evl F OF ts)
def gs (s : List (Int × Bool)) : Prop := ∀ q ∈ s, okz q.1 ∧ (q.2 = true → q.1 = 0 ∨ q.1 = 1)
theorem jz_ok {t a b : Int} (ha : okz a) (hb : okz b) (h01 : t = -8 ∨ t = -9 → (a = 0 ∨ a = 1) ∧ (b = 0 ∨ b = 1)) : okz (jz t a b) ∧ ((t ≤ -5 ∧ -9 ≤ t) → jz t a b = 0 ∨ jz t a b = 1) := by
  unfold jz
  by_cases h1 : t = -1
  · simp only [h1, if_true]; exact ⟨clz_ok _, by omega⟩
  by_cases h2 : t = -2
  · simp only [h2]; simp; exact clz_ok _
  by_cases h3 : t = -3
  · simp only [h3]; simp; exact clz_ok _
  by_cases h4 : t = -4
  · simp only [h4]; simp; exact flz_ok ha
  by_cases h5 : t = -5
  · simp only [h5]; simp; by_cases c : a < b <;> simp [c, okz] <;> omega
  by_cases h6 : t = -6
  · simp only [h6]; simp; by_cases c : b < a <;> simp [c, okz] <;> omega
  by_cases h7 : t = -7
  · simp only [h7]; simp; by_cases c : a = b <;> simp [c, okz]
  by_cases h8 : t = -8
  · simp only [h8]; simp; rcases h01 (Or.inl h8) with ⟨rfl | rfl, rfl | rfl⟩ <;> simp [okz]
  by_cases h9 : t = -9
  · simp only [h9]; simp; rcases h01 (Or.inr h9) with ⟨rfl | rfl, rfl | rfl⟩ <;> simp [okz]
  simp only [h1, h2, h3, h4, h5, h6, h7, h8, h9, if_false]
  refine ⟨?_, by omega⟩
  by_cases h10 : t = -10
  · simp only [h10, if_true]; by_cases c : a < b
    · rw [if_pos c]; exact ha
    · rw [if_neg c]; exact hb
  · simp only [h10, if_false]; by_cases c : b < a
    · rw [if_pos c]; exact ha
    · rw [if_neg c]; exact hb
theorem e1_good {F : Nat → Option Int} {OF : Int → Int → Option Int} (hF : ∀ k v, F k = some v → okz v) (hO : ∀ t a v, OF t a = some v → okz v) {t : Int} {s s' : List (Int × Bool)} (h : e1 F OF t s = some s') (hs : gs s) : gs s' := by
  unfold e1 at h
  by_cases h1 : 10000 ≤ t
  · rw [if_pos h1] at h
    by_cases hl : s.length < 64
    · rw [if_pos hl] at h
      cases hf : F (t - 10000).toNat with
      | none => rw [hf] at h; cases h
      | some v =>
        rw [hf] at h
        cases h
        intro q hq
        rcases List.mem_cons.mp hq with rfl | hq
        · exact ⟨hF _ _ hf, fun z => by cases z⟩
        · exact hs q hq
    · rw [if_neg hl] at h; cases h
  rw [if_neg h1] at h
  by_cases h2 : 0 ≤ t
  · rw [if_pos h2] at h
    by_cases hl : s.length < 64
    · rw [if_pos hl] at h
      cases h
      intro q hq
      rcases List.mem_cons.mp hq with rfl | hq
      · refine ⟨⟨by show -1000000 ≤ t; omega, by show t ≤ 1000000; omega⟩, fun z => ?_⟩
        have : t ≤ 1 := of_decide_eq_true z
        show t = 0 ∨ t = 1
        omega
      · exact hs q hq
    · rw [if_neg hl] at h; cases h
  rw [if_neg h2] at h
  by_cases h3 : t ≤ -12
  · rw [if_pos h3] at h
    match s, hs, h with
    | [], _, h => cases h
    | (a, f) :: r, hs, h =>
      simp only at h
      by_cases h4 : t = -12
      · rw [if_pos h4] at h
        by_cases hf : f = true
        · rw [if_pos hf] at h
          cases h
          intro q hq
          rcases List.mem_cons.mp hq with rfl | hq
          · have := (hs (a, f) List.mem_cons_self).2 hf
            simp only at this
            rcases this with rfl | rfl <;> simp [okz]
          · exact hs q (List.mem_cons_of_mem _ hq)
        · rw [if_neg hf] at h; cases h
      · rw [if_neg h4] at h
        cases ho : OF t a with
        | none => rw [ho] at h; cases h
        | some v =>
          rw [ho] at h
          cases h
          intro q hq
          rcases List.mem_cons.mp hq with rfl | hq
          · exact ⟨hO _ _ _ ho, fun z => by cases z⟩
          · exact hs q (List.mem_cons_of_mem _ hq)
  rw [if_neg h3] at h
  match s, hs, h with
  | [], _, h => cases h
  | [q], _, h => cases h
  | (b, g) :: (a, f) :: r, hs, h =>
    simp only at h
    by_cases h5 : (t = -8 ∨ t = -9) ∧ ¬ (f = true ∧ g = true)
    · rw [if_pos h5] at h; cases h
    · rw [if_neg h5] at h
      by_cases h6 : -11 ≤ t
      · rw [if_pos h6] at h
        cases h
        have hb := hs (b, g) List.mem_cons_self
        have ha := hs (a, f) (List.mem_cons_of_mem _ List.mem_cons_self)
        have hj := jz_ok (t := t) ha.1 hb.1 (fun q => by
          have : f = true ∧ g = true := Decidable.byContradiction fun z => h5 ⟨q, z⟩
          exact ⟨ha.2 this.1, hb.2 this.2⟩)
        intro q hq
        rcases List.mem_cons.mp hq with rfl | hq
        · exact ⟨hj.1, fun z => hj.2 (of_decide_eq_true z)⟩
        · exact hs q (List.mem_cons_of_mem _ (List.mem_cons_of_mem _ hq))
      · rw [if_neg h6] at h; cases h
/-- the stack as it lies in a row of ints -/
def rep (f : Nat → Int32) : List (Int × Bool) → Prop
  | [] => True
  | q :: r => (f r.length).toInt = q.1 ∧ rep f r
theorem rep_upd {f : Nat → Int32} {x : Int32} {k : Nat} : ∀ {s : List (Int × Bool)}, s.length ≤ k → rep f s → rep (upd f k x) s
  | [], _, _ => trivial
  | q :: r, hl, h => by
    have hl' : r.length + 1 ≤ k := hl
    refine ⟨?_, rep_upd (by omega) h.2⟩
    rw [upd, if_neg (by omega)]
    exact h.1
/-! Machine.single, Machine.value -/
/-- what stands in the machine's rows, as the evaluator takes it -/
def cF (M : mm_M) (F : Nat → Option Int) : Prop := ∀ k v, F k = some v → k < 24 ∧ (M.1 31 k).toInt = v ∧ okz v
def cO (M : mm_M) (OF : Int → Int → Option Int) : Prop := ∀ t a v, OF t a = some v → okz v ∧ ((t = -13 ∧ v = if 0 ≤ a ∧ a < 7 then (M.1 32 a.toNat).toInt else 0) ∨ (t = -14 ∧ v = if 0 ≤ a ∧ a < 7 then (M.1 33 a.toNat).toInt else -1))
theorem i32_nI {x : Int32} (h : 0 ≤ x.toInt) : x = nI x.toInt.toNat := by
  obtain ⟨j, hj, e⟩ := nI_of (x := x) (fun q => by have q' := i32_lt.mp q; have e : (0 : Int32).toInt = 0 := rfl; omega)
  rw [e, nI_toInt hj]; rfl
theorem c_single {d : Nat} {x1 x2 : Int32} {M : mm_M} {K : Int32 → mm_M → Prop} (hG : mm_G M.2.2) (h1 : x1.toInt = -12 ∨ x1.toInt = -13 ∨ x1.toInt = -14)
    (hK : ∀ z : Int32, z.toInt = (if x1.toInt = -12 then (if x2.toInt = 0 then 1 else 0) else if x1.toInt = -13 then (if 0 ≤ x2.toInt ∧ x2.toInt < 7 then (M.1 32 x2.toInt.toNat).toInt else 0) else (if 0 ≤ x2.toInt ∧ x2.toInt < 7 then (M.1 33 x2.toInt.toNat).toInt else -1)) → K z M) : mm_CI mX5_single d [.ref 30, .int x1, .int x2] M K := by
  have lit : ∀ (k : Int32) (n : Int), k.toInt = n → (x1 = k ↔ x1.toInt = n) := fun k n hk => by rw [i32_eq, hk]
  have e0 : (0 : Int32).toInt = 0 := rfl
  have e7 : (7 : Int32).toInt = 7 := rfl
  have fin : ∀ u : Int32, (u = 1 ∧ 0 ≤ x2.toInt ∧ x2.toInt < 7) ∨ (u = 0 ∧ ¬ (0 ≤ x2.toInt ∧ x2.toInt < 7)) → jX5_single_15 d x1 x2 M K x1 x2 u := by
    intro u hu
    refine lX5_single_15 hG ?_
    by_cases e13 : x1 = (-13)
    · rw [if_pos e13]
      have e' : x1.toInt = -13 := (lit _ _ rfl).mp e13
      rw [e'] at hK
      simp only [show ¬ ((-13 : Int) = -12) by decide, if_false, if_true] at hK
      rcases hu with ⟨rfl, hr⟩ | ⟨rfl, hr⟩
      · rw [if_neg (by decide)]
        have hx : x2.toNatClampNeg = x2.toInt.toNat := rfl
        refine ⟨vp_in_iff.mpr hr, hK _ ?_⟩
        rw [if_pos hr, hx]
      · rw [if_pos rfl]
        exact hK _ (by rw [if_neg hr]; rfl)
    · rw [if_neg e13]
      have g13 := mt (lit (-13) (-13) rfl).mpr e13
      by_cases e12 : x1 = (-12)
      · rw [if_pos e12]
        have e' : x1.toInt = -12 := (lit _ _ rfl).mp e12
        rw [e'] at hK
        simp only [if_true] at hK
        by_cases c : x2 = 0
        · rw [if_pos c]; exact hK _ (by rw [c]; rfl)
        · rw [if_neg c]; exact hK _ (by rw [if_neg (show ¬ x2.toInt = 0 from fun q => c (i32_eq.mpr q))]; rfl)
      · rw [if_neg e12]
        have g12 := mt (lit (-12) (-12) rfl).mpr e12
        rw [if_neg g12, if_neg g13] at hK
        rcases hu with ⟨rfl, hr⟩ | ⟨rfl, hr⟩
        · rw [if_neg (by decide)]
          refine ⟨vp_in_iff.mpr hr, hK _ ?_⟩
          rw [if_pos hr]; rfl
        · rw [if_pos rfl]
          exact hK _ (by rw [if_neg hr]; rfl)
  refine rX5_single hG ?_
  by_cases c0 : x2 < 0
  · rw [if_pos c0]; have := i32_lt.mp c0; exact fin 0 (Or.inr ⟨rfl, by omega⟩)
  · rw [if_neg c0]
    have n0 := mt i32_lt.mpr c0
    by_cases c7 : 7 ≤ x2
    · rw [if_pos c7]; have := i32_le.mp c7; exact fin 0 (Or.inr ⟨rfl, by omega⟩)
    · rw [if_neg c7]; have := mt i32_le.mpr c7; exact fin 1 (Or.inl ⟨rfl, by omega, by omega⟩)
set_option maxHeartbeats 4000000 in
theorem c_value_loop {d r1 n1 e : Nat} {x2 x3 : Int32} {M : mm_M} {K : Int32 → mm_M → Prop} {F : Nat → Option Int} {OF : Int → Int → Option Int} {v : Int} {fl : Bool} (hr1 : mm_SH[r1]? = some (0, n1)) (h34 : r1 ≠ 34) (hn : n1 < 2 ^ 31) (hG : mm_G M.2.2) (hF : cF M F) (hO : cO M OF) (he : e ≤ n1) (hK : ∀ (g : Nat → Int32) (x : Int32), x.toInt = v → K x (mm_cI M 34 g)) :
    ∀ (ts : List Int) (s : List (Int × Bool)) (i : Nat) (g : Nat → Int32), i + ts.length = e → (∀ j t, ts[j]? = some t → (M.1 r1 (i + j)).toInt = t) → gs s → rep g s → s.length ≤ 64 → evl F OF ts s = some [(v, fl)] → jX5_value_28 d r1 n1 x2 x3 (mm_cI M 34 g) K (nI s.length) (nI e) (nI i) := by
  have h31 : ∀ g, (mm_cI M 34 g).1 31 = M.1 31 := fun g => cI_ne (by decide)
  have h32 : ∀ g, (mm_cI M 34 g).1 32 = M.1 32 := fun g => cI_ne (by decide)
  have h33 : ∀ g, (mm_cI M 34 g).1 33 = M.1 33 := fun g => cI_ne (by decide)
  have hr : ∀ g, (mm_cI M 34 g).1 r1 = M.1 r1 := fun g => cI_ne h34
  have h4 : ∀ g, (mm_cI M 34 g).1 34 = g := fun g => cI_self _ _ _
  have hG' : ∀ g, mm_G (mm_cI M 34 g).2.2 := fun g => hG
  intro ts
  induction ts with
  | nil =>
    intro s i g hi hc hs hrep hl hev
    have hs1 : s = [(v, fl)] := Option.some.inj hev
    subst hs1
    refine lX5_value_28 hr1 (hG' g) ?_
    rw [if_pos (nI_le (by simp at hi; omega) (by omega)), if_neg (show ¬ nI [(v, fl)].length ≤ 0 from nI_nle (n := 1) (by decide) (by decide))]
    have e0 : nI [(v, fl)].length - 1 = nI 0 := nI_pred 0
    rw [e0, h4]
    refine ⟨vp_in_nI (by decide) (by decide), ?_⟩
    rw [nI_clamp (by decide)]
    exact hK g _ hrep.1
  | cons t ts ih =>
    intro s i g hi hc hs hrep hl hev
    have hlen : i + (ts.length + 1) = e := hi
    have hc0 : (M.1 r1 i).toInt = t := hc 0 t rfl
    have hcs : ∀ j t, ts[j]? = some t → (M.1 r1 (i + 1 + j)).toInt = t := fun j t h => by
      rw [show i + 1 + j = i + (j + 1) by omega]; exact hc (j + 1) t h
    obtain ⟨s', h1, h2⟩ := Option.bind_eq_some_iff.mp (show (e1 F OF t s).bind (evl F OF ts) = some [(v, fl)] from hev)
    have hs' := e1_good (fun k v h => (hF k v h).2.2) (fun t a v h => (hO t a v h).1) h1 hs
    refine lX5_value_28 hr1 (hG' g) ?_
    rw [if_neg (nI_ge (a := i) (b := e) (by omega) (by omega)), nI_clamp (n := i) (by omega), hr, h31, h4, nI_1]
    refine ⟨vp_in_nI (by omega) (by omega), ?_⟩
    have lt_ : ∀ (k : Int32) (n : Int), k.toInt = n → (M.1 r1 i < k ↔ t < n) := fun k n hk => by rw [i32_lt, hk, hc0]
    unfold e1 at h1
    by_cases a1 : 10000 ≤ t
    · rw [if_pos a1] at h1
      rw [if_neg (mt (lt_ 10000 10000 rfl).mp (by omega))]
      by_cases hl2 : s.length < 64
      · rw [if_pos hl2] at h1
        cases hf : F (t - 10000).toNat with
        | none => rw [hf] at h1; cases h1
        | some w =>
          rw [hf] at h1
          have h1 : (w, false) :: s = s' := Option.some.inj h1
          subst h1
          obtain ⟨f1, f2, f3⟩ := hF _ _ hf
          have e64 : (64 : Int32) = nI 64 := rfl
          rw [e64, if_neg (nI_ge hl2 (by decide))]
          have hm : (M.1 r1 i - 10000).toInt = t - 10000 := by
            rw [Int32.toInt_sub, hc0]
            show (t - 10000 : Int).bmod _ = _
            exact bm32 (by omega) (by omega)
          have hq : M.1 r1 i - 10000 = nI (t - 10000).toNat := by
            rw [i32_nI (x := M.1 r1 i - 10000) (by omega), hm]
          rw [hq, if_neg (nI_ge f1 (by decide)), nI_clamp (n := (t - 10000).toNat) (by omega), nI_clamp (n := s.length) (by omega), uI_on_cI, nI_1]
          refine ⟨vp_in_nI f1 (by decide), vp_in_nI hl2 (by decide), ?_⟩
          refine ih ((w, false) :: s) (i + 1) _ (by omega) hcs hs' ⟨?_, rep_upd (Nat.le_refl _) hrep⟩ hl2 h2
          rw [upd, if_pos rfl, f2]
      · rw [if_neg hl2] at h1; cases h1
    rw [if_neg a1] at h1
    rw [if_pos ((lt_ 10000 10000 rfl).mpr (by omega))]
    by_cases a2 : 0 ≤ t
    · rw [if_pos a2] at h1
      rw [if_neg (mt (lt_ 0 0 rfl).mp (by omega))]
      by_cases hl2 : s.length < 64
      · rw [if_pos hl2] at h1
        have h1 : (t, decide (t ≤ 1)) :: s = s' := Option.some.inj h1
        subst h1
        have e64 : (64 : Int32) = nI 64 := rfl
        rw [e64, if_neg (nI_ge hl2 (by decide)), nI_clamp (n := s.length) (by omega), uI_on_cI, nI_1]
        refine ⟨vp_in_nI hl2 (by decide), ?_⟩
        refine ih ((t, decide (t ≤ 1)) :: s) (i + 1) _ (by omega) hcs hs' ⟨?_, rep_upd (Nat.le_refl _) hrep⟩ hl2 h2
        rw [upd, if_pos rfl, hc0]
      · rw [if_neg hl2] at h1; cases h1
    rw [if_neg a2] at h1
    rw [if_pos ((lt_ 0 0 rfl).mpr (by omega))]
    have l12 : ((-12 : Int32) < M.1 r1 i) ↔ -12 < t := by rw [i32_lt, hc0]; rfl
    by_cases a3 : t ≤ -12
    · rw [if_pos a3] at h1
      rw [if_neg (mt l12.mp (by omega))]
      match s, hs, hrep, hl, h1 with
      | [], _, _, _, h1 => cases h1
      | (a, f) :: r, hs, hrep, hl, h1 =>
        have hl : r.length + 1 ≤ 64 := hl
        have en : nI ((a, f) :: r).length - 1 = nI r.length := nI_pred r.length
        have ga := hs (a, f) List.mem_cons_self
        simp only at h1 ga
        have hra : (g r.length).toInt = a := hrep.1
        rw [if_neg (show ¬ nI ((a, f) :: r).length ≤ 0 from nI_nle (n := r.length + 1) (by omega) (by omega)), en, nI_clamp (n := r.length) (by omega)]
        refine ⟨vp_in_nI (by omega) (by decide), ?_⟩
        have go : ∀ (z : Int32) (q : Int × Bool), z.toInt = q.1 → s' = q :: r → vp_in (nI r.length) 64 ∧ jX5_value_28 d r1 n1 x2 x3 (mm_uI (mm_cI M 34 g) 34 r.length z) K (nI ((a, f) :: r).length) (nI e) (nI (i + 1)) := by
          intro z q hz hq
          subst hq
          refine ⟨vp_in_nI (by omega) (by decide), ?_⟩
          rw [uI_on_cI]
          refine ih (q :: r) (i + 1) _ (by omega) hcs hs' ⟨?_, rep_upd (Nat.le_refl _) hrep.2⟩ hl h2
          rw [upd, if_pos rfl, hz]
        by_cases a4 : t = -12
        · rw [if_pos a4] at h1
          by_cases hf : f = true
          · rw [if_pos hf] at h1
            have h1 : (1 - a, true) :: r = s' := Option.some.inj h1
            refine c_single (hG' g) (Or.inl (by rw [hc0]; exact a4)) (fun z hz => ?_)
            rw [hc0, if_pos a4, hra] at hz
            refine go z (1 - a, true) ?_ h1.symm
            rcases ga.2 hf with rfl | rfl
            · rw [hz]; rfl
            · rw [hz]; rfl
          · rw [if_neg hf] at h1; cases h1
        · rw [if_neg a4] at h1
          cases ho : OF t a with
          | none => rw [ho] at h1; cases h1
          | some w =>
            rw [ho] at h1
            have h1 : (w, false) :: r = s' := Option.some.inj h1
            obtain ⟨-, o1⟩ := hO _ _ _ ho
            refine c_single (hG' g) (Or.inr (by rw [hc0]; exact o1.imp (·.1) (·.1))) (fun z hz => ?_)
            rw [hc0, if_neg a4, hra, h32, h33] at hz
            refine go z (w, false) ?_ h1.symm
            rcases o1 with ⟨q1, q2⟩ | ⟨q1, q2⟩
            · rw [if_pos q1] at hz; rw [hz, q2]
            · rw [if_neg (by omega)] at hz; rw [hz, q2]
    rw [if_neg a3] at h1
    rw [if_pos (l12.mpr (by omega))]
    match s, hs, hrep, hl, h1 with
    | [], _, _, _, h1 => cases h1
    | [q], _, _, _, h1 => cases h1
    | (b, gb) :: (a, fa) :: r, hs, hrep, hl, h1 =>
      have hl : r.length + 1 + 1 ≤ 64 := hl
      simp only at h1
      by_cases h5 : (t = -8 ∨ t = -9) ∧ ¬ (fa = true ∧ gb = true)
      · rw [if_pos h5] at h1; cases h1
      · rw [if_neg h5] at h1
        by_cases h6 : -11 ≤ t
        · rw [if_pos h6] at h1
          have h1 : (jz t a b, decide (t ≤ -5 ∧ -9 ≤ t)) :: r = s' := Option.some.inj h1
          subst h1
          have hb := hs (b, gb) List.mem_cons_self
          have ha := hs (a, fa) (List.mem_cons_of_mem _ List.mem_cons_self)
          have en : nI ((b, gb) :: (a, fa) :: r).length + (-1) = nI (r.length + 1) := pk_m1 (r.length + 1)
          have en2 : nI (r.length + 1) - 1 = nI r.length := nI_pred r.length
          have n2 : ¬ nI ((b, gb) :: (a, fa) :: r).length ≤ 1 := nI_ge (a := 1) (b := r.length + 1 + 1) (by omega) (by omega)
          rw [if_neg n2, en, en2, nI_clamp (n := r.length) (by omega), nI_clamp (n := r.length + 1) (by omega)]
          refine ⟨vp_in_nI (by omega) (by decide), vp_in_nI (by omega) (by decide), ?_⟩
          have hra : (g r.length).toInt = a := hrep.2.1
          have hrb : (g (r.length + 1)).toInt = b := hrep.1
          refine c_joined (hG' g) (by rw [hra]; exact ha.1) (by rw [hrb]; exact hb.1) (by rw [hc0]; omega) (fun q => ?_) (fun z hz => ?_)
          · rw [hc0] at q
            have : fa = true ∧ gb = true := Decidable.byContradiction fun z => h5 ⟨q, z⟩
            rw [hra, hrb]
            exact ⟨ha.2 this.1, hb.2 this.2⟩
          · rw [hc0, hra, hrb] at hz
            refine ⟨vp_in_nI (by omega) (by decide), ?_⟩
            rw [uI_on_cI]
            refine ih (_ :: r) (i + 1) _ (by omega) hcs hs' ⟨?_, rep_upd (Nat.le_refl _) hrep.2.2⟩ (by show r.length + 1 ≤ 64; omega) h2
            rw [upd, if_pos rfl, hz]
        · rw [if_neg h6] at h1; cases h1
/-- Machine.value over a stretch of code -/
theorem c_value {d r1 n1 i e : Nat} {M : mm_M} {K : Int32 → mm_M → Prop} {F : Nat → Option Int} {OF : Int → Int → Option Int} {v : Int} {fl : Bool} {ts : List Int} (hr1 : mm_SH[r1]? = some (0, n1)) (h34 : r1 ≠ 34) (hn : n1 < 2 ^ 31) (hG : mm_G M.2.2) (hF : cF M F) (hO : cO M OF) (he : e < n1) (hi : i + ts.length = e) (hc : ∀ j t, ts[j]? = some t → (M.1 r1 (i + j)).toInt = t) (hev : evl F OF ts [] = some [(v, fl)]) (hK : ∀ (g : Nat → Int32) (x : Int32), x.toInt = v → K x (mm_cI M 34 g)) :
    mm_CI mX5_value (d + 1) [.ref 30, .ref r1, .int (nI i), .int (nI e)] M K := by
  refine rX5_value hr1 hG ?_
  rw [if_neg (nI_ge (a := e) (b := n1) he hn), if_pos (nI_pos' (by omega))]
  have h := c_value_loop (d := d) (x2 := nI i) (x3 := nI e) hr1 h34 hn hG hF hO (Nat.le_of_lt he) hK ts [] i (M.1 34) hi hc (fun q h => by cases h) trivial (by decide) hev
  rw [cI_id] at h
  exact h
