/-! ===== isKept, eats, allEat ===== -/
def mK (L : List dQ) (M : mm_M) : Prop := M.1 199 43 = nI L.length ∧ L.length ≤ 40 ∧ ∀ k q, L[k]? = some q → M.1 199 (44 + 4 * k) = q.1 ∧ M.1 199 (45 + 4 * k) = nI q.2.1 ∧ M.1 199 (46 + 4 * k) = nI q.2.2.1 ∧ M.1 199 (47 + 4 * k) = q.2.2.2
theorem mK_off {W : Nat → Nat → Prop} {L : List dQ} {M m : mm_M} (h : mK L M) (ho : offM W M m) (hW : ∀ c j, W c j → ¬ (c = 199 ∧ 43 ≤ j)) : mK L m := by
  obtain ⟨h1, h2, h3⟩ := h
  have g : ∀ j, 43 ≤ j → m.1 199 j = M.1 199 j := fun j q => ho.1 199 j (fun z => hW 199 j z ⟨rfl, q⟩)
  exact ⟨by rw [g _ (by omega)]; exact h1, h2, fun k q hq => by rw [g _ (by omega), g _ (by omega), g _ (by omega), g _ (by omega)]; exact h3 k q hq⟩
def wK (c j : Nat) : Prop := c = 199 ∧ 43 ≤ j
theorem m_kept_put {d n b e : Nat} {t : Int32} {L : List dQ} {N : dN} {M : mm_M} {K : mm_M → Prop} {x1 x2 : Int32} (hG : mm_G M.2.2) (he : e < 7) (h0 : M.1 199 0 = N.1) (ht : M.1 203 e = t) (hn : M.1 199 43 = nI (n + 1)) (hn40 : n < 40) (hlen : L.length = n) (hL : ∀ k q, L[k]? = some q → M.1 199 (44 + 4 * k) = q.1 ∧ M.1 199 (45 + 4 * k) = nI q.2.1 ∧ M.1 199 (46 + 4 * k) = nI q.2.2.1 ∧ M.1 199 (47 + 4 * k) = q.2.2.2) (hK : ∀ m, offM wK M m → mK (L ++ [(N.1, b, e, t)]) m → K m) : jX12_isKept_64 d x1 x2 M K (nI b) (nI e) := by
  refine lX12_isKept_64 hG ?_
  have t43 : (43 : Int32).toNatClampNeg = 43 := rfl
  have t0 : (0 : Int32).toNatClampNeg = 0 := rfl
  have e4 : (4 : Int32) * nI (n + 1) = nI (4 * (n + 1)) := pk_mul 4 (n + 1)
  have e44 : (44 : Int32) + nI (4 * (n + 1)) = nI (44 + 4 * (n + 1)) := nI_add 44 _
  have es : nI (44 + 4 * (n + 1)) - 4 = nI (44 + 4 * n) := by
    rw [show 44 + 4 * (n + 1) = (44 + 4 * n) + 4 by omega]; exact pk_sub (a := 44 + 4 * n + 4) (b := 4) (by omega)
  rw [t43, t0, hn, e4, e44, es]
  have a1 : nI (44 + 4 * n) + 1 = nI (45 + 4 * n) := by rw [nI_1]; congr 1; omega
  have a2 : nI (44 + 4 * n) + 2 = nI (46 + 4 * n) := by
    have := nI_add (44 + 4 * n) 2
    rw [show 44 + 4 * n + 2 = 46 + 4 * n by omega] at this
    exact this
  have a3 : nI (44 + 4 * n) + 3 = nI (47 + 4 * n) := by
    have := nI_add (44 + 4 * n) 3
    rw [show 44 + 4 * n + 3 = 47 + 4 * n by omega] at this
    exact this
  rw [a1, a2, a3, nI_clamp (n := 44 + 4 * n) (by omega), nI_clamp (n := 45 + 4 * n) (by omega), nI_clamp (n := 46 + 4 * n) (by omega), nI_clamp (n := 47 + 4 * n) (by omega), nI_clamp (n := e) (by omega)]
  refine ⟨vp_in_nI (by omega) (by decide), vp_in_nI (by omega) (by decide), vp_in_nI (by omega) (by decide), vp_in_nI he (by decide), vp_in_nI (by omega) (by decide), ?_⟩
  rw [uI_c (c := 203) (by decide), uI_c (c := 203) (by decide), uI_c (c := 203) (by decide), ht, h0]
  refine hK _ (offM_tr (offM_tr (offM_tr (offM_uI ⟨rfl, by omega⟩) (offM_uI ⟨rfl, by omega⟩)) (offM_uI ⟨rfl, by omega⟩)) (offM_uI ⟨rfl, by omega⟩)) ⟨?_, ?_, fun k q hq => ?_⟩
  · rw [uI_j (by omega), uI_j (by omega), uI_j (by omega), uI_j (by omega), hn, List.length_append, hlen]; rfl
  · rw [List.length_append, hlen]; show n + 1 ≤ 40; omega
  · by_cases hk : k < L.length
    · rw [List.getElem?_append_left hk] at hq
      have := hL k q hq
      refine ⟨?_, ?_, ?_, ?_⟩
      · rw [uI_j (by omega), uI_j (by omega), uI_j (by omega), uI_j (by omega)]; exact this.1
      · rw [uI_j (by omega), uI_j (by omega), uI_j (by omega), uI_j (by omega)]; exact this.2.1
      · rw [uI_j (by omega), uI_j (by omega), uI_j (by omega), uI_j (by omega)]; exact this.2.2.1
      · rw [uI_j (by omega), uI_j (by omega), uI_j (by omega), uI_j (by omega)]; exact this.2.2.2
    · have hk2 : k < (L ++ [(N.1, b, e, t)]).length := (List.getElem?_eq_some_iff.mp hq).1
      rw [List.length_append] at hk2
      have hk2 : k < L.length + 1 := hk2
      obtain rfl : k = n := by omega
      rw [List.getElem?_append_right (by omega), hlen, Nat.sub_self] at hq
      have hq : (N.1, b, e, t) = q := Option.some.inj hq
      subst hq
      refine ⟨?_, ?_, ?_, ?_⟩
      · rw [uI_j (by omega), uI_j (by omega), uI_j (by omega), uI_at]
      · rw [uI_j (by omega), uI_j (by omega), uI_at]
      · rw [uI_j (by omega), uI_at]
      · rw [uI_at]
theorem m_kept_shift {d : Nat} {M : mm_M} {K : mm_M → Prop} {x1 x2 y1 y2 : Int32} (hG : mm_G M.2.2) : ∀ (k j : Nat) (m : mm_M), j + k = 200 → 44 ≤ j → offM wK M m → (∀ i, i < 44 → m.1 199 i = M.1 199 i) → (∀ i, 44 ≤ i → m.1 199 i = if i < j then M.1 199 (i + 4) else M.1 199 i) → (∀ m', offM wK M m' → (∀ i, i < 44 → m'.1 199 i = M.1 199 i) → (∀ i, 44 ≤ i → i < 200 → m'.1 199 i = M.1 199 (i + 4)) → jX12_isKept_64 d x1 x2 m' K y1 y2) → jX12_isKept_23 d x1 x2 m K y1 y2 (nI j) := by
  intro k
  induction k with
  | zero =>
    intro j m hj h44 ho h1 h2 hK
    obtain rfl : j = 200 := by omega
    refine lX12_isKept_23 (by rw [ho.2.2]; exact hG) (ipos (by decide) (hK m ho h1 (fun i hi hi2 => ?_)))
    rw [h2 i hi, if_pos hi2]
  | succ k ih =>
    intro j m hj h44 ho h1 h2 hK
    have e4 : nI j + 4 = nI (j + 4) := nI_add j 4
    refine lX12_isKept_23 (by rw [ho.2.2]; exact hG) (ineg (nI_ge (b := 200) (by omega) (by decide)) ?_)
    rw [e4, nI_1, nI_clamp (n := j) (by omega), nI_clamp (n := j + 4) (by omega)]
    refine ⟨vp_in_nI (by omega) (by decide), vp_in_nI (by omega) (by decide), ?_⟩
    refine ih (j + 1) _ (by omega) (by omega) (offM_tr ho (offM_uI ⟨rfl, by omega⟩)) (fun i hi => by rw [uI_j (by omega)]; exact h1 i hi) (fun i hi => ?_) hK
    by_cases c : i = j
    · subst c
      rw [uI_at, h2 (i + 4) (by omega), if_neg (by omega), if_pos (by omega)]
    · rw [uI_j c, h2 i hi]
      by_cases c2 : i < j
      · rw [if_pos c2, if_pos (by omega)]
      · rw [if_neg c2, if_neg (by omega)]
theorem m_isKept {d b e : Nat} {t : Int32} {th : Bool} {L : List dQ} {N : dN} {M : mm_M} {K : mm_M → Prop} (hG : mm_G M.2.2) (he : e < 7) (h0 : M.1 199 0 = N.1) (ht : M.1 203 e = t) (hth : M.1 164 57 = if th then 1 else 0) (hL : mK L M) (hK : ∀ m, offM wK M m → mK (if th then L else keepA L (N.1, b, e, t)) m → K m) : mm_CV mX12_isKept d [.ref 164, .int (nI b), .int (nI e)] M K := by
  refine rX12_isKept hG ?_
  rw [hth]
  cases th with
  | true => exact ineg (by decide) (hK M offM_rf hL)
  | false =>
    refine ipos rfl ?_
    obtain ⟨h1, h2, h3⟩ := hL
    have t43 : (43 : Int32).toNatClampNeg = 43 := rfl
    rw [t43, h1]
    by_cases c : nI L.length = 40
    · have hl : L.length = 40 := (nI_eq (b := 40) (by omega) (by decide)).mp c
      refine ipos c ?_
      refine m_kept_shift (M := M) hG 156 44 M (by omega) (by omega) offM_rf (fun _ _ => rfl) (fun i hi => ?_) (fun m ho g1 g2 => ?_)
      · by_cases q : i < 44
        · omega
        · rw [if_neg q]
      · have hk : keepA L (N.1, b, e, t) = L.drop 1 ++ [(N.1, b, e, t)] := by
          unfold keepA
          rw [hl, List.drop_append_of_le_length (by omega)]
        refine m_kept_put (n := 39) (L := L.drop 1) (N := N) (t := t) (by rw [ho.2.2]; exact hG) he (by rw [g1 0 (by omega)]; exact h0) (by rw [ho.1 203 e (by unfold wK; omega)]; exact ht) (by rw [g1 43 (by omega), h1, hl]) (by omega) (by rw [List.length_drop, hl]) (fun k q hq => ?_) (fun m2 o2 hm2 => hK m2 (offM_tr ho o2) ?_)
        · rw [List.getElem?_drop] at hq
          have hkl : 1 + k < L.length := (List.getElem?_eq_some_iff.mp hq).1
          obtain ⟨q1, q2, q3, q4⟩ := h3 (1 + k) q hq
          refine ⟨?_, ?_, ?_, ?_⟩
          · rw [g2 _ (by omega) (by omega), show 44 + 4 * k + 4 = 44 + 4 * (1 + k) by omega]; exact q1
          · rw [g2 _ (by omega) (by omega), show 45 + 4 * k + 4 = 45 + 4 * (1 + k) by omega]; exact q2
          · rw [g2 _ (by omega) (by omega), show 46 + 4 * k + 4 = 46 + 4 * (1 + k) by omega]; exact q3
          · rw [g2 _ (by omega) (by omega), show 47 + 4 * k + 4 = 47 + 4 * (1 + k) by omega]; exact q4
        · show mK (keepA L (N.1, b, e, t)) m2
          rw [hk]; exact hm2
    · have hl : L.length ≠ 40 := fun q => c (by rw [q]; rfl)
      refine ineg c ?_
      rw [nI_1]
      have hk : keepA L (N.1, b, e, t) = L ++ [(N.1, b, e, t)] := by
        unfold keepA
        rw [show L.length + 1 - 40 = 0 by omega]; rfl
      have o1 : offM wK M (mm_uI M 199 43 (nI (L.length + 1))) := offM_uI ⟨rfl, by omega⟩
      refine m_kept_put (M := mm_uI M 199 43 (nI (L.length + 1))) (n := L.length) (L := L) (N := N) (t := t) hG he (by rw [uI_j (by decide)]; exact h0) (by rw [uI_c (by decide)]; exact ht) (uI_at _ _ _ _) (by omega) rfl (fun k q hq => ?_) (fun m2 o2 hm2 => hK m2 (offM_tr o1 o2) ?_)
      · rw [uI_j (by omega), uI_j (by omega), uI_j (by omega), uI_j (by omega)]; exact h3 k q hq
      · show mK (keepA L (N.1, b, e, t)) m2
        rw [hk]; exact hm2
/-! the moment's cells changed -/
theorem mN_uF {h : Nat} {x : Int32} {N : dN} {M : mm_M} (hN : mN N M) (hh : h < 7) : mN (N.1, N.2.1, setF N.2.2.1 h x, N.2.2.2.1, N.2.2.2.2) (mm_uI M 199 (2 + 3 * h) x) := by
  obtain ⟨h1, h2, h3, h4, h5⟩ := hN
  refine ⟨by rw [uI_j (by omega)]; exact h1, fun k hk => by rw [uI_j (by omega)]; exact h2 k hk, fun k hk => ?_, fun k hk => by rw [uI_j (by omega)]; exact h4 k hk, fun a b ha hb hab => by rw [uI_j (by omega)]; exact h5 a b ha hb hab⟩
  show _ = setF N.2.2.1 h x k
  unfold setF
  by_cases c : k = h
  · subst c; rw [uI_at, if_pos rfl]
  · rw [uI_j (by omega), if_neg c]; exact h3 k hk
theorem mN_uH {h : Nat} {x : Int32} {N : dN} {M : mm_M} (hN : mN N M) (hh : h < 7) : mN (N.1, N.2.1, N.2.2.1, setF N.2.2.2.1 h x, N.2.2.2.2) (mm_uI M 199 (3 + 3 * h) x) := by
  obtain ⟨h1, h2, h3, h4, h5⟩ := hN
  refine ⟨by rw [uI_j (by omega)]; exact h1, fun k hk => by rw [uI_j (by omega)]; exact h2 k hk, fun k hk => by rw [uI_j (by omega)]; exact h3 k hk, fun k hk => ?_, fun a b ha hb hab => by rw [uI_j (by omega)]; exact h5 a b ha hb hab⟩
  show _ = setF N.2.2.2.1 h x k
  unfold setF
  by_cases c : k = h
  · subst c; rw [uI_at, if_pos rfl]
  · rw [uI_j (by omega), if_neg c]; exact h4 k hk
theorem loaves_set {bt : Nat → Option (Nat × Int32)} {i b : Nat} {t : Int32} (hi : bt i = none) (hb : b ≠ i) {p q : Nat} (hpq : p ≠ q) : loavesOf (setF bt i (some (b, t))) p q = if (p = b ∧ q = i) ∨ (p = i ∧ q = b) then loavesOf bt p q + 1 else loavesOf bt p q := by
  have x0 : (0 : Int32) + 0 = 0 := by decide
  have x1 : (0 : Int32) + 1 = 1 := by decide
  have x2 : (1 : Int32) + 0 = 1 := by decide
  have x3 : (1 : Int32) + 1 = 2 := by decide
  by_cases cp : p = i
  · subst cp
    have hq : q ≠ p := fun e => hpq e.symm
    by_cases cq : q = b
    · subst cq
      rw [if_pos (Or.inr ⟨rfl, rfl⟩)]
      unfold loavesOf setF
      rw [if_pos rfl, if_neg hq, hi]
      by_cases z : (bt q).map (·.1) = some p <;> simp [z]
    · rw [if_neg (by omega)]
      unfold loavesOf setF
      rw [if_pos rfl, if_neg hq, hi]
      have : ¬ b = q := fun e => cq e.symm
      by_cases z : (bt q).map (·.1) = some p <;> simp [z, this]
  · by_cases cq : q = i
    · subst cq
      by_cases cb : p = b
      · subst cb
        rw [if_pos (Or.inl ⟨rfl, rfl⟩)]
        unfold loavesOf setF
        rw [if_pos rfl, if_neg cp, hi]
        by_cases z : (bt p).map (·.1) = some q <;> simp [z]
      · rw [if_neg (by omega)]
        unfold loavesOf setF
        rw [if_pos rfl, if_neg cp, hi]
        have : ¬ b = p := fun e => cb e.symm
        by_cases z : (bt p).map (·.1) = some q <;> simp [z, this]
    · rw [if_neg (by omega)]
      unfold loavesOf setF
      rw [if_neg cp, if_neg cq]
def wE (c j : Nat) : Prop := wA c j ∨ c = 199 ∨ c = 202 ∨ c = 203 ∨ c = 204 ∨ (c = 164 ∧ (j = 58 ∨ j = 60))
/-- behind i eaters -/
def mS (i : Nat) (th : Bool) (L : List dQ) (rest : Nat) (M0 : mm_M) (S : dS) (m : mm_M) : Prop := offM wE M0 m ∧ mN S.1 m ∧ (∀ e, e < i → m.1 202 e = bkR (S.2.2.1 e)) ∧ (∀ e q, e < i → S.2.2.1 e = some q → m.1 203 e = q.2) ∧ (∀ e, i ≤ e → S.2.2.1 e = none) ∧ (∀ a b, a < 7 → b < 7 → a ≠ b → m.1 204 (pr a b) = loavesOf S.2.2.1 a b) ∧ (∃ bk, bk < 128 ∧ m.1 164 60 = nI bk ∧ rest ||| bk = S.2.1) ∧ m.1 164 58 = M0.1 164 58 + nI S.2.2.2.length ∧ mK (keptA (!th) L S.1.1 S.2.2.2) m
set_option maxHeartbeats 4000000 in
theorem m_eats {d i rest : Nat} {th : Bool} {L : List dQ} {U : dU} {S : dS} {M m : mm_M} {K : mm_M → Prop} (hG : mm_G M.2.2) (hU : mU U M) (vu : vU U) (vn : vN U S.1) (hi7 : i < 7) (hr : rest < 128) (h59 : M.1 164 59 = nI rest) (hth : M.1 164 57 = if th then 1 else 0) (hS : mS i th L rest M S m) (c : S.1.2.1.testBit i = true) (hK : ∀ m', mS (i + 1) th L rest M (serveS U S i) m' → K m') : mm_CV mX12_eats (d + 9) [.ref 164, .int (nI i)] m K := by
  obtain ⟨ho, hN, h202, h203, hnone, h204, ⟨bk, hbk, h60, hor⟩, h58, hk⟩ := hS
  have hGm : mm_G m.2.2 := by rw [ho.2.2]; exact hG
  have hUm : mU U m := mU_off hU ho (fun c j q => by unfold wE wA at q; omega)
  have h59m : m.1 164 59 = nI rest := by rw [ho.1 _ _ (by unfold wE wA; omega)]; exact h59
  refine rX12_eats hGm (m_bakerFor hGm hUm hN vu vn hi7 hr hbk h59m h60 (fun m1 o1 => ⟨vp_in_nI hi7 (by decide), ?_⟩))
  rw [hor, nI_clamp (n := i) (by omega), mx3' i (by omega), nI_clamp (n := 3 + 3 * i) (by omega)]
  have hG1 : mm_G m1.2.2 := by rw [o1.2.2]; exact hGm
  have e1 : offM wE M m1 := offM_tr ho (offM_mono o1 (fun c j q => Or.inl q))
  have hN1 : mN S.1 m1 := mN_off hN o1 (fun c j q => by unfold wA at q; omega)
  have a202 : ∀ e, e < i → m1.1 202 e = bkR (S.2.2.1 e) := fun e he => by rw [o1.1 _ _ (by unfold wA; omega)]; exact h202 e he
  have a203 : ∀ e q, e < i → S.2.2.1 e = some q → m1.1 203 e = q.2 := fun e q he hq => by rw [o1.1 _ _ (by unfold wA; omega)]; exact h203 e q he hq
  have a204 : ∀ a b, a < 7 → b < 7 → a ≠ b → m1.1 204 (pr a b) = loavesOf S.2.2.1 a b := fun a b ha hb hab => by rw [o1.1 _ _ (by unfold wA; omega)]; exact h204 a b ha hb hab
  have a60 : m1.1 164 60 = nI bk := by rw [o1.1 _ _ (by unfold wA; omega)]; exact h60
  have a58 : m1.1 164 58 = M.1 164 58 + nI S.2.2.2.length := by rw [o1.1 _ _ (by unfold wA; omega)]; exact h58
  have ak : mK (keptA (!th) L S.1.1 S.2.2.2) m1 := mK_off hk o1 (fun c j q => by unfold wA at q; omega)
  cases hp : pickA U S.1 i S.2.1 with
  | none =>
    refine ipos rfl ?_
    have hS' : serveS U S i = (hungA S.1 i, S.2.1, S.2.2.1, S.2.2.2) := by unfold serveS; rw [if_pos c, hp]
    rw [hS'] at hK
    have o2 : offM (fun c j => c = 202 ∧ j = i) m1 (mm_uI m1 202 i (pickR none)) := offM_uI ⟨rfl, rfl⟩
    have g202 : (mm_uI m1 202 i (pickR none)).1 202 i = pickR none := uI_at _ _ _ _
    generalize mm_uI m1 202 i (pickR none) = m2 at o2 g202 ⊢
    have hN2 : mN S.1 m2 := mN_off hN1 o2 (fun c j q => by omega)
    have hG2 : mm_G m2.2.2 := by rw [o2.2.2]; exact hG1
    refine m_hungerOf hG2 hN2 hi7 ?_
    have fin : ∀ m3, offM (fun c j => c = 199 ∧ j < 43) m2 m3 → mN (hungA S.1 i) m3 → K m3 := by
      intro m3 o3 hN3
      refine hK m3 ⟨offM_tr (offM_tr e1 (offM_mono o2 (fun c j q => by unfold wE; omega))) (offM_mono o3 (fun c j q => by unfold wE; omega)), hN3, fun e he => ?_, fun e q he hq => ?_, fun e he => hnone e (by omega), fun a b ha hb hab => ?_, ⟨bk, hbk, ?_, hor⟩, ?_, ?_⟩
      · rw [o3.1 _ _ (by omega)]
        by_cases z : e = i
        · subst z; rw [g202, hnone e (Nat.le_refl _)]; rfl
        · rw [o2.1 _ _ (by omega)]; exact a202 e (by omega)
      · rw [o3.1 _ _ (by omega), o2.1 _ _ (by omega)]
        by_cases z : e = i
        · have hq : S.2.2.1 e = some q := hq
          rw [z, hnone i (Nat.le_refl _)] at hq; cases hq
        · exact a203 e q (by omega) hq
      · rw [o3.1 _ _ (by omega), o2.1 _ _ (by omega)]; exact a204 a b ha hb hab
      · rw [o3.1 _ _ (by omega), o2.1 _ _ (by omega)]; exact a60
      · rw [o3.1 _ _ (by omega), o2.1 _ _ (by omega)]; exact a58
      · exact mK_off (mK_off ak o2 (fun c j q => by omega)) o3 (fun c j q => by omega)
    have hb9 := vn.2.2.2.1 i
    have e9 : (9 : Int32).toInt = 9 := rfl
    have ea : (S.1.2.2.2.1 i + 1).toInt = (S.1.2.2.2.1 i).toInt + 1 := i32_add hb9 (by omega) (y := 1) (c := 1) (d := 1) (by unfold inI; decide) (by omega)
    unfold inI at hb9
    by_cases c9 : 9 ≤ S.1.2.2.2.1 i
    · refine ipos c9 (fin m2 offM_rf ?_)
      have c9' := i32_le.mp c9
      have hm : more1 (S.1.2.2.2.1 i) = S.1.2.2.2.1 i := by
        unfold more1
        rw [if_neg (fun q => by have := i32_lt.mp q; omega)]
        exact i32_eq.mpr (by omega)
      have : hungA S.1 i = S.1 := by
        unfold hungA
        rw [hm]
        have : setF S.1.2.2.2.1 i (S.1.2.2.2.1 i) = S.1.2.2.2.1 := by
          funext j; unfold setF; by_cases z : j = i
          · rw [if_pos z, z]
          · rw [if_neg z]
        rw [this]
      rw [this]; exact hN2
    · refine ineg c9 ⟨vp_in_nI (by omega) (by decide), vp_in_nI (by omega) (by decide), ?_⟩
      have c9' := mt i32_le.mpr c9
      rw [hN2.2.2.2.1 i hi7]
      have hm : more1 (S.1.2.2.2.1 i) = S.1.2.2.2.1 i + 1 := by
        unfold more1
        by_cases z : S.1.2.2.2.1 i + 1 < 9
        · rw [if_pos z]
        · rw [if_neg z]
          have := mt i32_lt.mpr z
          exact i32_eq.mpr (by omega)
      rw [← hm]
      exact fin _ (offM_uI ⟨rfl, by omega⟩) (mN_uH hN2 hi7)
  | some b =>
    obtain ⟨hb7, hab⟩ := pickA_some hp
    obtain ⟨ab1, ab2, ab3⟩ := able_of hab
    have hbi : b ≠ i := fun q => by rw [q, vn.2.2.2.2.2.2.1 i] at ab1; exact absurd ab1 (by decide)
    have hS' : serveS U S i = (eatA U S.1 b i, S.2.1 ||| 2 ^ b, setF S.2.2.1 i (some (b, tasteA U S.1 b i)), S.2.2.2 ++ [(b, i, tasteA U S.1 b i)]) := by unfold serveS; rw [if_pos c, hp]
    rw [hS'] at hK
    refine ineg (fun q => nI_pos (n := b) (by omega) (by rw [show nI b = -1 from q]; decide)) ?_
    have o2 : offM (fun c j => c = 202 ∧ j = i) m1 (mm_uI m1 202 i (pickR (some b))) := offM_uI ⟨rfl, rfl⟩
    have g202 : (mm_uI m1 202 i (pickR (some b))).1 202 i = nI b := uI_at _ _ _ _
    generalize mm_uI m1 202 i (pickR (some b)) = m2 at o2 g202 ⊢
    have hN2 : mN S.1 m2 := mN_off hN1 o2 (fun c j q => by omega)
    have hG2 : mm_G m2.2.2 := by rw [o2.2.2]; exact hG1
    have e2 : offM wE M m2 := offM_tr e1 (offM_mono o2 (fun c j q => by unfold wE; omega))
    refine m_tasteOf (U := U) hG2 (mU_off hU e2 (fun c j q => by unfold wE wA at q; omega)) hN2 vu vn (bit_lt vn (vn.2.2.2.2.2.2.2 i b ab1).2) hb7 hi7 hbi (fun m3 o3 => ?_)
    show vp_in (nI i) 7 ∧ vp_in (2 + (3 * nI b)) 204 ∧ vp_in (2 + (3 * nI b)) 204 ∧ _
    rw [mx2 b (by omega)]
    refine ⟨vp_in_nI hi7 (by decide), vp_in_nI (by omega) (by decide), vp_in_nI (by omega) (by decide), vp_in_nI (by omega) (by decide), ?_⟩
    have hG3 : mm_G m3.2.2 := by rw [o3.2.2]; exact hG2
    have e3 : offM wE M m3 := offM_tr e2 (offM_mono o3 (fun c j q => Or.inl q))
    have hN3 : mN S.1 m3 := mN_off hN2 o3 (fun c j q => by unfold wA at q; omega)
    have hU3 : mU U m3 := mU_off hU e3 (fun c j q => by unfold wE wA at q; omega)
    have t2 : (2 : Int32).toNatClampNeg = 2 := rfl
    rw [show pickR (some b) = nI b from rfl, mx2 b (by omega), nI_clamp (n := 2 + 3 * b) (by omega), t2]
    have o4 : offM (fun c j => c = 203 ∧ j = i) m3 (mm_uI m3 203 i (tasteA U S.1 b i)) := offM_uI ⟨rfl, rfl⟩
    have g203 : (mm_uI m3 203 i (tasteA U S.1 b i)).1 203 i = tasteA U S.1 b i := uI_at _ _ _ _
    generalize mm_uI m3 203 i (tasteA U S.1 b i) = m4 at o4 g203 ⊢
    have hN4 : mN S.1 m4 := mN_off hN3 o4 (fun c j q => by omega)
    rw [hN4.2.2.1 b hb7, (mU_off hU3 o4 (fun c j q => by omega)).1]
    have o5 : offM (fun c j => c = 199 ∧ j < 43) m4 (mm_uI (mm_uI m4 199 (2 + 3 * b) (S.1.2.2.1 b - U.1)) 199 (3 + 3 * i) 0) := offM_tr (offM_uI ⟨rfl, by omega⟩) (offM_uI ⟨rfl, by omega⟩)
    have hN5 : mN (eatA U S.1 b i) (mm_uI (mm_uI m4 199 (2 + 3 * b) (S.1.2.2.1 b - U.1)) 199 (3 + 3 * i) 0) := mN_uH (mN_uF hN4 hb7) hi7
    generalize mm_uI (mm_uI m4 199 (2 + 3 * b) (S.1.2.2.1 b - U.1)) 199 (3 + 3 * i) 0 = m5 at o5 hN5 ⊢
    have b60 : m5.1 164 60 = nI bk := by rw [o5.1 _ _ (by omega), o4.1 _ _ (by omega), o3.1 _ _ (by unfold wA; omega), o2.1 _ _ (by omega)]; exact a60
    have b58 : m5.1 164 58 = M.1 164 58 + nI S.2.2.2.length := by rw [o5.1 _ _ (by omega), o4.1 _ _ (by omega), o3.1 _ _ (by unfold wA; omega), o2.1 _ _ (by omega)]; exact a58
    have b204 : ∀ p q, p < 7 → q < 7 → p ≠ q → m5.1 204 (pr p q) = loavesOf S.2.2.1 p q := fun p q h1 h2 h3 => by rw [o5.1 _ _ (by omega), o4.1 _ _ (by omega), o3.1 _ _ (by unfold wA; omega), o2.1 _ _ (by omega)]; exact a204 p q h1 h2 h3
    rw [b60, (bit_or bk hbk b hb7).1]
    have o6 : offM (fun c j => c = 164 ∧ j = 60) m5 (mm_uI m5 164 60 (nI (bk ||| 2 ^ b))) := offM_uI ⟨rfl, rfl⟩
    have g60 : (mm_uI m5 164 60 (nI (bk ||| 2 ^ b))).1 164 60 = nI (bk ||| 2 ^ b) := uI_at _ _ _ _
    generalize mm_uI m5 164 60 (nI (bk ||| 2 ^ b)) = m6 at o6 g60 ⊢
    have hG6 : mm_G m6.2.2 := by rw [o6.2.2, o5.2.2, o4.2.2]; exact hG3
    have hpr := pr_lt b hb7 i hi7 hbi
    refine m_pairOf hG6 hb7 hi7 hbi ?_
    rw [nI_clamp (n := pr b i) (by omega)]
    refine ⟨vp_in_nI hpr (by decide), vp_in_nI hpr (by decide), ?_⟩
    have o7 : offM (fun c j => (c = 204 ∧ j = pr b i) ∨ (c = 164 ∧ j = 58)) m6 (mm_uI (mm_uI m6 204 (pr b i) ((m6.1 204 (pr b i)) + 1)) 164 58 (((mm_uI m6 204 (pr b i) ((m6.1 204 (pr b i)) + 1)).1 164 58) + 1)) := offM_tr (offM_uI (by omega)) (offM_uI (by omega))
    have g204 : (mm_uI (mm_uI m6 204 (pr b i) ((m6.1 204 (pr b i)) + 1)) 164 58 (((mm_uI m6 204 (pr b i) ((m6.1 204 (pr b i)) + 1)).1 164 58) + 1)).1 204 (pr b i) = loavesOf S.2.2.1 b i + 1 := by
      rw [uI_c (by decide), uI_at, o6.1 _ _ (by omega), b204 b i hb7 hi7 hbi]
    have g58 : (mm_uI (mm_uI m6 204 (pr b i) ((m6.1 204 (pr b i)) + 1)) 164 58 (((mm_uI m6 204 (pr b i) ((m6.1 204 (pr b i)) + 1)).1 164 58) + 1)).1 164 58 = M.1 164 58 + nI (S.2.2.2.length + 1) := by
      rw [uI_at, uI_c (by decide), o6.1 _ _ (by omega), b58, Int32.add_assoc, nI_1]
    generalize mm_uI (mm_uI m6 204 (pr b i) ((m6.1 204 (pr b i)) + 1)) 164 58 (((mm_uI m6 204 (pr b i) ((m6.1 204 (pr b i)) + 1)).1 164 58) + 1) = m7 at o7 g204 g58 ⊢
    have e7 : offM wE M m7 := offM_tr (offM_tr (offM_tr (offM_tr e3 (offM_mono o4 (fun c j q => by unfold wE; omega))) (offM_mono o5 (fun c j q => by unfold wE; omega))) (offM_mono o6 (fun c j q => by unfold wE; omega))) (offM_mono o7 (fun c j q => by unfold wE; omega))
    have hN7 : mN (eatA U S.1 b i) m7 := mN_off (mN_off hN5 o6 (fun c j q => by omega)) o7 (fun c j q => by omega)
    have g203' : m7.1 203 i = tasteA U S.1 b i := by rw [o7.1 _ _ (by omega), o6.1 _ _ (by omega), o5.1 _ _ (by omega)]; exact g203
    have k7 : mK (keptA (!th) L S.1.1 S.2.2.2) m7 := mK_off (mK_off (mK_off (mK_off (mK_off (mK_off ak o2 (fun c j q => by omega)) o3 (fun c j q => by unfold wA at q; omega)) o4 (fun c j q => by omega)) o5 (fun c j q => by omega)) o6 (fun c j q => by omega)) o7 (fun c j q => by omega)
    refine m_isKept (N := S.1) (th := th) (by rw [e7.2.2]; exact hG) hi7 hN7.1 g203' (by rw [e7.1 _ _ (by unfold wE wA; omega)]; exact hth) k7 (fun m8 o8 k8 => ?_)
    refine hK m8 ⟨offM_tr e7 (offM_mono o8 (fun c j q => by unfold wK at q; unfold wE; omega)), mN_off hN7 o8 (fun c j q => by unfold wK at q; omega), fun e he => ?_, fun e q he hq => ?_, fun e he => ?_, fun p q h1 h2 h3 => ?_, ⟨bk ||| 2 ^ b, or_lt7 hbk hb7, ?_, ?_⟩, ?_, ?_⟩
    · rw [o8.1 _ _ (by unfold wK; omega), o7.1 _ _ (by omega), o6.1 _ _ (by omega), o5.1 _ _ (by omega), o4.1 _ _ (by omega), o3.1 _ _ (by unfold wA; omega)]
      show _ = bkR (setF S.2.2.1 i (some (b, tasteA U S.1 b i)) e)
      unfold setF
      by_cases z : e = i
      · subst z; rw [g202, if_pos rfl]; rfl
      · rw [if_neg z, o2.1 _ _ (by omega)]; exact a202 e (by omega)
    · have hq : setF S.2.2.1 i (some (b, tasteA U S.1 b i)) e = some q := hq
      unfold setF at hq
      by_cases z : e = i
      · rw [if_pos z] at hq; cases hq; rw [z, o8.1 _ _ (by unfold wK; omega)]; exact g203'
      · rw [if_neg z] at hq
        rw [o8.1 _ _ (by unfold wK; omega), o7.1 _ _ (by omega), o6.1 _ _ (by omega), o5.1 _ _ (by omega), o4.1 _ _ (by omega), o3.1 _ _ (by unfold wA; omega), o2.1 _ _ (by omega)]
        exact a203 e q (by omega) hq
    · show setF S.2.2.1 i (some (b, tasteA U S.1 b i)) e = none
      unfold setF
      rw [if_neg (by omega)]; exact hnone e (by omega)
    · rw [o8.1 _ _ (by unfold wK; omega)]
      show _ = loavesOf (setF S.2.2.1 i (some (b, tasteA U S.1 b i))) p q
      rw [loaves_set (hnone i (Nat.le_refl _)) hbi h3]
      by_cases z : (p = b ∧ q = i) ∨ (p = i ∧ q = b)
      · rw [if_pos z]
        have e' : pr p q = pr b i := by
          rcases z with ⟨rfl, rfl⟩ | ⟨rfl, rfl⟩
          · rfl
          · exact pr_sym _ h1 _ h2
        have e'' : loavesOf S.2.2.1 p q = loavesOf S.2.2.1 b i := by
          rcases z with ⟨rfl, rfl⟩ | ⟨rfl, rfl⟩
          · rfl
          · unfold loavesOf; exact Int32.add_comm _ _
        rw [e', e'', g204]
      · rw [if_neg z]
        have hne : pr p q ≠ pr b i := fun e => z (pr_inj p h1 q h2 b hb7 i hi7 h3 hbi e)
        rw [o7.1 _ _ (by omega), o6.1 _ _ (by omega)]
        exact b204 p q h1 h2 h3
    · rw [o8.1 _ _ (by unfold wK; omega), o7.1 _ _ (by omega)]; exact g60
    · show rest ||| (bk ||| 2 ^ b) = S.2.1 ||| 2 ^ b
      rw [← hor, Nat.or_assoc]
    · rw [o8.1 _ _ (by unfold wK; omega), g58]
      show _ = M.1 164 58 + nI (S.2.2.2 ++ [(b, i, tasteA U S.1 b i)]).length
      rw [List.length_append]; rfl
    · cases th with
      | true => exact k8
      | false =>
        show mK (keptA true L S.1.1 (S.2.2.2 ++ [(b, i, tasteA U S.1 b i)])) m8
        rw [keptA_snoc]
        exact k8
