/-! ===== keep, serve ===== -/
/-- a loaf that is kept: day, baker, eater, taste -/
abbrev dQ : Type := Int32 × Nat × Nat × Int32
def pk (q : dQ) : Int32 := ((q.1 * 8 + nI q.2.1) * 8 + nI q.2.2.1) * 128 + q.2.2.2
def keepA (L : List dQ) (q : dQ) : List dQ := (L ++ [q]).drop (L.length + 1 - 40)
/-- the State at cell a has kept L, at most B loaves ever -/
def cK (a : Nat) (L : List dQ) (B : Nat) (M : mm_M) : Prop := ∃ n, M.1 a 2 = nI n ∧ n ≤ B ∧ L.length = min n 40 ∧ ∀ k q, L[k]? = some q → M.1 (a + 4) ((n - L.length + k) % 40) = pk q
theorem cK_off {W : Nat → Nat → Prop} {a B : Nat} {L : List dQ} {M m : mm_M} (h : cK a L B M) (ho : offM W M m) (hW : ∀ c j, W c j → ¬ (c = a + 4 ∨ (c = a ∧ j = 2))) : cK a L B m := by
  obtain ⟨n, h1, h2, h3, h4⟩ := h
  exact ⟨n, by rw [ho.1 _ _ (fun q => hW _ _ q (Or.inr ⟨rfl, rfl⟩))]; exact h1, h2, h3, fun k q hq => by rw [ho.1 _ _ (fun q => hW _ _ q (Or.inl rfl))]; exact h4 k q hq⟩
theorem cK_le {a B B' : Nat} {L : List dQ} {M : mm_M} (h : cK a L B M) (hB : B ≤ B') : cK a L B' M := by
  obtain ⟨n, h1, h2, h3⟩ := h
  exact ⟨n, h1, by omega, h3⟩
theorem rem40 (x : Int32) : (x - x / 40 * 40).toInt = x.toInt.tmod 40 := by
  have h1 : -2147483648 ≤ x.toInt := Int32.le_toInt x
  have h2 : x.toInt < 2147483648 := Int32.toInt_lt x
  have e40 : (40 : Int32).toInt = 40 := rfl
  have hd : (x / 40).toInt = x.toInt.tdiv 40 := by
    rw [Int32.toInt_div, e40]
    have := td_le x.toInt 40
    by_cases h0 : 0 ≤ x.toInt
    · have : x.toInt.tdiv 40 ≤ x.toInt := by omega
      have : 0 ≤ x.toInt.tdiv 40 := Int.tdiv_nonneg h0 (by omega)
      rw [bm32 (by omega) (by omega)]
    · have h3 : x.toInt.tdiv 40 ≤ 0 := by
        have : x.toInt.tdiv 40 = -((-x.toInt).tdiv 40) := by rw [Int.neg_tdiv]; omega
        have : 0 ≤ (-x.toInt).tdiv 40 := Int.tdiv_nonneg (by omega) (by omega)
        omega
      rw [bm32 (by omega) (by omega)]
  have ht := Int.tmod_add_mul_tdiv x.toInt 40
  have hb : (x.toInt.tmod 40).natAbs < 40 := by
    rw [Int.natAbs_tmod]
    exact Nat.mod_lt _ (by decide)
  rw [Int32.toInt_sub, Int32.toInt_mul, hd, e40]
  have hs := tm_le x.toInt 40
  rw [bm32 (n := x.toInt.tdiv 40 * 40) (by omega) (by omega), bm32 (by omega) (by omega)]
  omega
theorem mod_ne {x n : Nat} (h1 : x < n) (h2 : n < x + 40) : x % 40 ≠ n % 40 := by omega
theorem c_keep {d a b e : Nat} {t : Int32} {N : dN} {M : mm_M} {K : mm_M → Prop} (ha : a ∈ mm_Sts) (hG : mm_G M.2.2) (h0 : M.1 a 0 = N.1) (hK : ∀ m, offM (fun c j => c = a + 4 ∨ (c = a ∧ j = 2)) M m → (∀ L B, B < 2 ^ 30 → cK a L B M → cK a (keepA L (N.1, b, e, t)) (B + 1) m) → K m) : mm_CV mX9_keep d [.ref a, .int (nI b), .int (nI e), .int t] M K := by
  refine rX9_keep ha hG ?_
  have hr := rem40 (M.1 a 2)
  have hb : ((M.1 a 2).toInt.tmod 40).natAbs < 40 := by
    rw [Int.natAbs_tmod]
    exact Nat.mod_lt _ (by decide)
  have hpk : (((((M.1 a 0) * 8 + nI b) * 8) + nI e) * 128) + t = pk (N.1, b, e, t) := by rw [h0]; rfl
  rw [hpk]
  by_cases c : ((M.1 a 2) - (M.1 a 2) / 40 * 40) < 0
  · refine ipos c (hK M offM_rf (fun L B hB h => ?_))
    obtain ⟨n, h1, h2, h3⟩ := h
    exfalso
    have e40 : (40 : Int32) = nI 40 := rfl
    rw [h1, e40, pk_rem (by omega) (by decide) (by decide)] at c
    exact nI_pos (by omega) c
  · refine ineg c ?_
    have c' := mt i32_lt.mpr c
    have e0 : (0 : Int32).toInt = 0 := rfl
    rw [hr, e0] at c'
    refine ⟨vp_in_iff.mpr ⟨by rw [hr]; omega, by rw [hr]; omega⟩, hK _ (offM_tr (offM_uI (Or.inl rfl)) (offM_uI (Or.inr ⟨rfl, rfl⟩))) (fun L B hB h => ?_)⟩
    obtain ⟨n, h1, h2, h3, h4⟩ := h
    have e40 : (40 : Int32) = nI 40 := rfl
    have hidx : ((M.1 a 2) - (M.1 a 2) / 40 * 40).toNatClampNeg = n % 40 := by
      rw [h1, e40, pk_rem (by omega) (by decide) (by decide), nI_clamp (by omega)]
    rw [hidx]
    have hlen : (keepA L (N.1, b, e, t)).length = min (n + 1) 40 := by
      unfold keepA
      rw [List.length_drop, List.length_append]
      simp only [List.length_cons, List.length_nil]
      omega
    refine ⟨n + 1, ?_, by omega, hlen, fun k q hq => ?_⟩
    · rw [uI_at, uI_c (by omega), h1, nI_1]
    · rw [hlen, uI_c (by omega)]
      unfold keepA at hq
      rw [List.getElem?_drop] at hq
      have hk : L.length + 1 - 40 + k < (L ++ [(N.1, b, e, t)]).length := (List.getElem?_eq_some_iff.mp hq).1
      simp only [List.length_append, List.length_cons, List.length_nil] at hk
      by_cases hl : L.length + 1 - 40 + k < L.length
      · rw [List.getElem?_append_left hl] at hq
        have h5 := h4 _ _ hq
        have hx : n - L.length + (L.length + 1 - 40 + k) = n + 1 - min (n + 1) 40 + k := by omega
        have hne : (n + 1 - min (n + 1) 40 + k) % 40 ≠ n % 40 := mod_ne (by omega) (by omega)
        rw [hx] at h5
        rw [uI_j hne]
        exact h5
      · have hk2 : L.length + 1 - 40 + k = L.length := by omega
        rw [hk2, List.getElem?_append_right (Nat.le_refl _)] at hq
        simp only [Nat.sub_self, List.getElem?_cons_zero, Option.some.injEq] at hq
        rw [← hq]
        have he : (n + 1 - min (n + 1) 40 + k) % 40 = n % 40 := by omega
        rw [he, uI_at]
/-! a State's cells changed -/
theorem cN_uF {a h : Nat} {x : Int32} {N : dN} {M : mm_M} (hN : cN a N M) : cN a (N.1, N.2.1, setF N.2.2.1 h x, N.2.2.2.1, N.2.2.2.2) (mm_uI M (a + 1) h x) := by
  obtain ⟨h1, h2, h3, h4, h5⟩ := hN
  refine ⟨by rw [uI_c (by omega)]; exact h1, by rw [uI_c (by omega)]; exact h2, fun k hk => ?_, fun k hk => by rw [uI_c (by omega)]; exact h4 k hk, fun i j hi hj => by rw [uI_c (by omega)]; exact h5 i j hi hj⟩
  show _ = setF N.2.2.1 h x k
  unfold setF
  by_cases c : k = h
  · subst c; rw [uI_at, if_pos rfl]
  · rw [uI_j c, if_neg c]; exact h3 k hk
theorem cN_uH {a h : Nat} {x : Int32} {N : dN} {M : mm_M} (hN : cN a N M) : cN a (N.1, N.2.1, N.2.2.1, setF N.2.2.2.1 h x, N.2.2.2.2) (mm_uI M (a + 2) h x) := by
  obtain ⟨h1, h2, h3, h4, h5⟩ := hN
  refine ⟨by rw [uI_c (by omega)]; exact h1, by rw [uI_c (by omega)]; exact h2, fun k hk => by rw [uI_c (by omega)]; exact h3 k hk, fun k hk => ?_, fun i j hi hj => by rw [uI_c (by omega)]; exact h5 i j hi hj⟩
  show _ = setF N.2.2.2.1 h x k
  unfold setF
  by_cases c : k = h
  · subst c; rw [uI_at, if_pos rfl]
  · rw [uI_j c, if_neg c]; exact h4 k hk
/-! what a day's meals leave in the calendar -/
def bkR (o : Option (Nat × Int32)) : Int32 := pickR (o.map (·.1))
def taR (t : Bool) (o : Option (Nat × Int32)) : Int32 := match o with
  | none => 255
  | some q => if t then q.2 else 255
def keptA (t : Bool) (L : List dQ) (day : Int32) (lo : List (Nat × Nat × Int32)) : List dQ := if t then (lo.map (fun q => (day, q))).foldl keepA L else L
theorem keptA_snoc {L : List dQ} {day : Int32} {lo : List (Nat × Nat × Int32)} {q : Nat × Nat × Int32} : keptA true L day (lo ++ [q]) = keepA (keptA true L day lo) (day, q) := by
  unfold keptA
  rw [if_pos rfl, if_pos rfl, List.map_append, List.foldl_append]
  rfl
def wS (a c j : Nat) : Prop := c = 31 ∨ c = 34 ∨ c = 35 ∨ c = 36 ∨ (c = 21 ∧ j = 4) ∨ (a ≤ c ∧ c ≤ a + 4)
/-- behind i eaters -/
def cS (a i : Nat) (t : Bool) (M0 : mm_M) (S : dS) (m : mm_M) : Prop := offM (wS a) M0 m ∧ cN a S.1 m ∧ (∀ e, e < i → m.1 35 e = bkR (S.2.2.1 e)) ∧ (∀ e, e < i → m.1 36 e = taR t (S.2.2.1 e)) ∧ (∀ e, i ≤ e → S.2.2.1 e = none) ∧ m.1 21 4 = nI S.2.2.2.length ∧ (∀ L B, B + 7 < 2 ^ 30 → cK a L B M0 → cK a (keptA t L S.1.1 S.2.2.2) (B + i) m)
set_option maxHeartbeats 4000000 in
theorem c_serve_loop {d a r : Nat} {U : dU} {M : mm_M} {K : mm_M → Prop} {x2 : Int32} {t : Bool} (ha : a ∈ mm_Sts) (hG : mm_G M.2.2) (hU : cU r U M) (vu : vU U) : ∀ (k i : Nat) (S : dS) (m : mm_M), i + k = 7 → vN U S.1 → S.2.1 < 128 → cS a i t M S m → (∀ m', cS a 7 t M ((List.range' i k).foldl (serveS U) S) m' → K m') → jX1_serve_11 (d + 2) a x2 (if t then 1 else 0) m K (if t then 1 else 0) (nI S.2.1) (nI i) := by
  have hs := St_at ha
  intro k
  induction k with
  | zero =>
    intro i S m hi vn hb hc hK
    obtain rfl : i = 7 := by omega
    refine lX1_serve_11 ha (by rw [hc.1.2.2]; exact hG) (ipos (by decide) (hK m hc))
  | succ k ih =>
    intro i S m hi vn hb hc hK
    have hi7 : i < 7 := by omega
    rw [List.range'_succ, List.foldl_cons] at hK
    obtain ⟨ho, hN, h35, h36, hnone, hlo, hkept⟩ := hc
    have hGm : mm_G m.2.2 := by rw [ho.2.2]; exact hG
    refine lX1_serve_11 ha hGm (ineg (lt7 hi7) ?_)
    rw [nI_clamp (by omega), nI_1]
    refine ⟨vp_in_nI hi7 (by decide), vp_in_nI hi7 (by decide), ?_⟩
    have o1 : offM (fun c j => (c = 35 ∨ c = 36) ∧ j = i) m (mm_uI (mm_uI m 35 i (-1)) 36 i 255) := offM_tr (offM_uI ⟨Or.inl rfl, rfl⟩) (offM_uI ⟨Or.inr rfl, rfl⟩)
    have a35 : (mm_uI (mm_uI m 35 i (-1)) 36 i 255).1 35 i = -1 := by rw [uI_c (by decide), uI_at]
    have a36 : (mm_uI (mm_uI m 35 i (-1)) 36 i 255).1 36 i = 255 := by rw [uI_at]
    generalize mm_uI (mm_uI m 35 i (-1)) 36 i 255 = m1 at o1 a35 a36 ⊢
    have ho1 : offM (wS a) M m1 := offM_tr ho (offM_mono o1 (fun c j q => by unfold wS; omega))
    have hN1 : cN a S.1 m1 := cN_off hN o1 (fun c j q => by omega)
    have k1 : ∀ L B, B + 7 < 2 ^ 30 → cK a L B M → cK a (keptA t L S.1.1 S.2.2.2) (B + i) m1 := fun L B hB h => cK_off (hkept L B hB h) o1 (fun c j q => by omega)
    have e35 : ∀ e, e < i + 1 → m1.1 35 e = bkR (S.2.2.1 e) := fun e he => by
      by_cases c : e = i
      · subst c; rw [a35, hnone e (Nat.le_refl _)]; rfl
      · rw [o1.1 35 e (by omega)]; exact h35 e (by omega)
    have e36 : ∀ e, e < i + 1 → m1.1 36 e = taR t (S.2.2.1 e) := fun e he => by
      by_cases c : e = i
      · subst c; rw [a36, hnone e (Nat.le_refl _)]; rfl
      · rw [o1.1 36 e (by omega)]; exact h36 e (by omega)
    have l1 : m1.1 21 4 = nI S.2.2.2.length := by rw [o1.1 21 4 (by omega)]; exact hlo
    have hG1 : mm_G m1.2.2 := by rw [ho1.2.2]; exact hG
    have hlt := vN_lt vu vn
    refine c_isThere (N := S.1) ha hG1 hN1.2.1 hlt hi7 ?_
    by_cases c : S.1.2.1.testBit i = true
    · rw [if_pos c]
      refine ineg (by decide) ?_
      have hU1 : cU r U m1 := cU_off hU ho1 (fun c j q => by unfold wS at q; omega)
      refine c_pickBaker ha hG1 hU1 hN1 vu vn hi7 hb (fun m2 o2 => ?_)
      have hG2 : mm_G m2.2.2 := by rw [o2.2.2]; exact hG1
      have hN2 : cN a S.1 m2 := cN_off hN1 o2 (fun c j q => by unfold wM at q; omega)
      have ho2 : offM (wS a) M m2 := offM_tr ho1 (offM_mono o2 (fun c j q => by unfold wM at q; unfold wS; omega))
      have hU2 : cU r U m2 := cU_off hU ho2 (fun c j q => by unfold wS at q; omega)
      cases hp : pickA U S.1 i S.2.1 with
      | none =>
        refine ipos (by decide) ?_
        refine lX1_serve_71 ha hG2 ⟨vp_in_nI hi7 (by decide), vp_in_nI hi7 (by decide), ?_⟩
        rw [nI_clamp (by omega), hN2.2.2.2.1 i hi7, nI_1]
        have hS' : serveS U S i = (hungA S.1 i, S.2.1, S.2.2.1, S.2.2.2) := by unfold serveS; rw [if_pos c, hp]
        rw [hS'] at hK
        refine ih (i + 1) (hungA S.1 i, S.2.1, S.2.2.1, S.2.2.2) _ (by omega) (hungA_v vn) hb ?_ hK
        have o3 : offM (fun c j => c = a + 2) m2 (mm_uI m2 (a + 2) i (more1 (S.1.2.2.2.1 i))) := offM_uI rfl
        refine ⟨offM_tr ho2 (offM_mono o3 (fun c j q => by unfold wS; omega)), cN_uH hN2, fun e he => ?_, fun e he => ?_, fun e he => hnone e (by omega), ?_, fun L B hB h => ?_⟩
        · rw [uI_c (by omega), o2.1 35 e (by unfold wM; omega)]; exact e35 e he
        · rw [uI_c (by omega), o2.1 36 e (by unfold wM; omega)]; exact e36 e he
        · rw [uI_c (by omega), o2.1 21 4 (by unfold wM; omega)]; exact l1
        · refine cK_le (cK_off (cK_off (k1 L B hB h) o2 (fun c j q => by unfold wM at q; omega)) o3 (fun c j q => by omega)) (by omega)
      | some b =>
        obtain ⟨hb7, hab⟩ := pickA_some hp
        obtain ⟨ab1, ab2, ab3⟩ := able_of hab
        have hS' : serveS U S i = (eatA U S.1 b i, S.2.1 ||| 2 ^ b, setF S.2.2.1 i (some (b, tasteA U S.1 b i)), S.2.2.2 ++ [(b, i, tasteA U S.1 b i)]) := by unfold serveS; rw [if_pos c, hp]
        rw [hS'] at hK
        refine ineg (nI_pos (by omega)) (ipos (nI_lt (a := b) (b := 7) hb7 (by decide)) ?_)
        have fin : ∀ m4 : mm_M, offM (wS a) M m4 → cN a S.1 m4 → (∀ e, e < i → m4.1 35 e = bkR (S.2.2.1 e)) → (∀ e, e < i → m4.1 36 e = taR t (S.2.2.1 e)) → m4.1 36 i = (if t then tasteA U S.1 b i else 255) → m4.1 21 4 = nI S.2.2.2.length → (∀ L B, B + 7 < 2 ^ 30 → cK a L B M → cK a (keptA t L S.1.1 (S.2.2.2 ++ [(b, i, tasteA U S.1 b i)])) (B + (i + 1)) m4) → jX1_serve_130 (d + 2) a x2 (if t then 1 else 0) m4 K (if t then 1 else 0) (nI S.2.1) (nI i) (nI b) := by
          intro m4 ho4 hN4 f35 f36 f36i f21 fk
          have hU4 : cU r U m4 := cU_off hU ho4 (fun c j q => by unfold wS at q; omega)
          refine lX1_serve_130 ha (by rw [ho4.2.2]; exact hG) ⟨vp_in_nI hi7 (by decide), vp_in_nI hb7 (by decide), r, hU4.1, hU4.2.1, vp_in_nI hb7 (by decide), vp_in_nI hi7 (by decide), ?_⟩
          rw [nI_clamp (n := i) (by omega), nI_clamp (n := b) (by omega), nI_1, (bit_or _ hb _ hb7).1]
          have p1 : offM (fun c j => (c = 35 ∧ j = i) ∨ (c = 21 ∧ j = 4)) m4 (mm_uI (mm_uI m4 35 i (nI b)) 21 4 (((mm_uI m4 35 i (nI b)).1 21 4) + 1)) := offM_tr (offM_uI (Or.inl ⟨rfl, rfl⟩)) (offM_uI (Or.inr ⟨rfl, rfl⟩))
          have p35 : (mm_uI (mm_uI m4 35 i (nI b)) 21 4 (((mm_uI m4 35 i (nI b)).1 21 4) + 1)).1 35 i = nI b := by rw [uI_c (by decide), uI_at]
          have p21 : (mm_uI (mm_uI m4 35 i (nI b)) 21 4 (((mm_uI m4 35 i (nI b)).1 21 4) + 1)).1 21 4 = nI (S.2.2.2.length + 1) := by rw [uI_at, uI_c (by decide), f21, nI_1]
          generalize mm_uI (mm_uI m4 35 i (nI b)) 21 4 (((mm_uI m4 35 i (nI b)).1 21 4) + 1) = m5 at p1 p35 p21 ⊢
          have hN5 : cN a S.1 m5 := cN_off hN4 p1 (fun c j q => by omega)
          have hU5 : cU r U m5 := cU_off hU4 p1 (fun c j q => by omega)
          rw [hN5.2.2.1 b hb7, hU5.2.2.1]
          refine ih (i + 1) (eatA U S.1 b i, S.2.1 ||| 2 ^ b, setF S.2.2.1 i (some (b, tasteA U S.1 b i)), S.2.2.2 ++ [(b, i, tasteA U S.1 b i)]) _ (by omega) (eatA_v vu vn ab2) (or_lt7 hb hb7) ?_ hK
          have p2 : offM (fun c j => c = a + 1 ∨ c = a + 2) m5 (mm_uI (mm_uI m5 (a + 1) b (S.1.2.2.1 b - U.1)) (a + 2) i 0) := offM_tr (offM_uI (Or.inl rfl)) (offM_uI (Or.inr rfl))
          refine ⟨offM_tr (offM_tr ho4 (offM_mono p1 (fun c j q => by unfold wS; omega))) (offM_mono p2 (fun c j q => by unfold wS; omega)), cN_uH (cN_uF hN5), fun e he => ?_, fun e he => ?_, fun e he => ?_, ?_, fun L B hB h => ?_⟩
          · rw [p2.1 35 e (by omega)]
            show _ = bkR (setF S.2.2.1 i (some (b, tasteA U S.1 b i)) e)
            unfold setF
            by_cases q : e = i
            · subst q; rw [p35, if_pos rfl]; rfl
            · rw [if_neg q, p1.1 35 e (by omega)]; exact f35 e (by omega)
          · rw [p2.1 36 e (by omega), p1.1 36 e (by omega)]
            show _ = taR t (setF S.2.2.1 i (some (b, tasteA U S.1 b i)) e)
            unfold setF
            by_cases q : e = i
            · subst q; rw [f36i, if_pos rfl]; rfl
            · rw [if_neg q]; exact f36 e (by omega)
          · show setF S.2.2.1 i (some (b, tasteA U S.1 b i)) e = none
            unfold setF
            rw [if_neg (by omega)]; exact hnone e (by omega)
          · rw [p2.1 21 4 (by omega), p21, List.length_append]; rfl
          · exact cK_off (cK_off (fk L B hB h) p1 (fun c j q => by omega)) p2 (fun c j q => by omega)
        have g35 : ∀ e, e < i → m2.1 35 e = bkR (S.2.2.1 e) := fun e he => by rw [o2.1 35 e (by unfold wM; omega)]; exact e35 e (by omega)
        have g36 : ∀ e, e < i → m2.1 36 e = taR t (S.2.2.1 e) := fun e he => by rw [o2.1 36 e (by unfold wM; omega)]; exact e36 e (by omega)
        have g36i : m2.1 36 i = 255 := by rw [o2.1 36 i (by unfold wM; omega)]; exact a36
        have g21 : m2.1 21 4 = nI S.2.2.2.length := by rw [o2.1 21 4 (by unfold wM; omega)]; exact l1
        have gk : ∀ L B, B + 7 < 2 ^ 30 → cK a L B M → cK a (keptA t L S.1.1 S.2.2.2) (B + i) m2 := fun L B hB h => cK_off (k1 L B hB h) o2 (fun c j q => by unfold wM at q; omega)
        cases t with
        | false =>
          refine ipos rfl ?_
          refine fin m2 ho2 hN2 g35 g36 g36i g21 (fun L B hB h => ?_)
          have := cK_le (gk L B hB h) (show B + i ≤ B + (i + 1) by omega)
          exact this
        | true =>
          refine ineg (by decide) ?_
          refine c_tasteOfLoaf ha hG2 hU2 hN2 vu vn hb7 hi7 (fun m3 o3 => ⟨vp_in_nI hi7 (by decide), vp_in_nI hi7 (by decide), ?_⟩)
          rw [uI_at]
          have hG3 : mm_G m3.2.2 := by rw [o3.2.2]; exact hG2
          have hN3 : cN a S.1 m3 := cN_off hN2 o3 (fun c j q => by unfold wM at q; omega)
          have q1 : offM (fun c j => c = 36 ∧ j = i) m3 (mm_uI m3 36 i (tasteA U S.1 b i)) := offM_uI ⟨rfl, rfl⟩
          have q36 : (mm_uI m3 36 i (tasteA U S.1 b i)).1 36 i = tasteA U S.1 b i := by rw [uI_at]
          have hG4 : mm_G (mm_uI m3 36 i (tasteA U S.1 b i)).2.2 := hG3
          generalize mm_uI m3 36 i (tasteA U S.1 b i) = m4 at q1 q36 hG4 ⊢
          have hN4 : cN a S.1 m4 := cN_off hN3 q1 (fun c j q => by omega)
          refine c_keep (N := S.1) ha hG4 hN4.1 (fun m5 o5 hk5 => ?_)
          refine fin m5 ?_ (cN_off hN4 o5 (fun c j q => by omega)) (fun e he => ?_) (fun e he => ?_) ?_ ?_ (fun L B hB h => ?_)
          · exact offM_tr (offM_tr (offM_tr ho2 (offM_mono o3 (fun c j q => by unfold wM at q; unfold wS; omega))) (offM_mono q1 (fun c j q => by unfold wS; omega))) (offM_mono o5 (fun c j q => by unfold wS; omega))
          · rw [o5.1 35 e (by omega), q1.1 35 e (by omega), o3.1 35 e (by unfold wM; omega)]; exact g35 e he
          · rw [o5.1 36 e (by omega), q1.1 36 e (by omega), o3.1 36 e (by unfold wM; omega)]; exact g36 e he
          · rw [o5.1 36 i (by omega), q36]; rfl
          · rw [o5.1 21 4 (by omega), q1.1 21 4 (by omega), o3.1 21 4 (by unfold wM; omega)]; exact g21
          · have z := hk5 (keptA true L S.1.1 S.2.2.2) (B + i) (by omega) (cK_off (cK_off (gk L B hB h) o3 (fun c j q => by unfold wM at q; omega)) q1 (fun c j q => by omega))
            rw [keptA_snoc]
            exact z
    · rw [if_neg c]
      refine ipos rfl ?_
      have hS' : serveS U S i = S := by unfold serveS; rw [if_neg c]
      rw [hS'] at hK
      exact ih (i + 1) S m1 (by omega) vn hb ⟨ho1, hN1, e35, e36, fun e he => hnone e (by omega), l1, fun L B hB h => cK_le (k1 L B hB h) (by omega)⟩ hK
theorem c_serve {d a r rest : Nat} {U : dU} {N : dN} {M : mm_M} {K : mm_M → Prop} {t : Bool} (ha : a ∈ mm_Sts) (hG : mm_G M.2.2) (hU : cU r U M) (hN : cN a N M) (vu : vU U) (vn : vN U N) (hr : rest < 128) (hK : ∀ m, cS a 7 t M (serveA U N rest) m → K m) : mm_CV mX1_serve (d + 3) [.ref 21, .ref a, .int (nI rest), .int (if t then 1 else 0)] M K := by
  have hs := St_at ha
  refine rX1_serve ha hG ?_
  have o1 : offM (fun c j => c = 21 ∧ j = 4) M (mm_uI M 21 4 0) := offM_uI ⟨rfl, rfl⟩
  refine c_serve_loop (M := M) ha hG hU vu 7 0 (N, rest, fun _ => none, []) _ (by omega) vn hr ?_ hK
  exact ⟨offM_mono o1 (fun c j q => by unfold wS; omega), cN_off hN o1 (fun c j q => by omega), fun e he => by omega, fun e he => by omega, fun _ _ => rfl, uI_at _ _ _ _, fun L B hB h => by
    have := cK_off h o1 (fun c j q => by omega)
    cases t <;> exact this⟩
