/-! ===== a duchy's text: what its statements tell ===== -/
/-- loaf, famine, how many houses, names, flour, salt, hate, codes by kind, how many codes -/
abbrev dR : Type := Int32 × Int32 × Nat × (Nat → Nat → Int32) × (Nat → Int32) × (Nat → Int32) × (Nat → Nat → Int32) × (Nat → Option (List Nat)) × Nat
abbrev dZ : Type := (Nat × dR) ⊕ (Nat × Nat)
def R0 : dR := (0, 0, 0, fun _ _ => 0, fun _ => 0, fun _ => 0, fun _ _ => 0, fun _ => none, 0)
def wordF (T : dT) (w : Int32) (q : Nat) (f : dZ) : dZ := if wdn T q = w then f else .inr (1, q)
def numF (T : dT) (lo hi q : Nat) (f : dZ) : dZ := match nuX T q lo hi with
  | none => f
  | some x => .inr x
def enSg (T : dT) (q : Nat) (R : dR) : dZ := if isS T q 59 = true then .inl (nxt T q, R) else .inr (1, q)
def bindS (T : dT) (r : dZ) : dZ := match r with
  | .inl x => enSg T x.1 x.2
  | .inr x => .inr x
def headB (T : dT) : dZ := wordF T 0 (rn T isBl 0) (numF T 1 20 (nxt T (rn T isBl 0)) (.inl (nxt T (nxt T (rn T isBl 0)), (vlu T (nxt T (rn T isBl 0)), R0.2))))
def ownW (T : dT) (q : Nat) : Bool := decide (0 ≤ (wdn T q).toInt ∧ (wdn T q).toInt < 24)
/-- the fault of a name -/
def nmX (T : dT) (q : Nat) : Option (Nat × Nat) := if tkk T q = 1 ∧ ownW T q = false then (if ten T q - q ≤ 6 then none else some (1, q + 6)) else some (1, q)
def nmOf (T : dT) (q : Nat) : Nat → Int32 := fun k => if q + k < ten T q then T.1 (q + k) - 97 + 1 else 0
def fnF (P : Nat → Bool) : Nat → Nat → Option Nat
  | 0, _ => none
  | k + 1, h => if P h = true then some h else fnF P k (h + 1)
def sameB (R : dR) (f : Nat → Int32) (h : Nat) : Bool := (List.range 6).all (fun k => decide (R.2.2.2.1 h k = f k))
theorem sameB_i {R : dR} {f : Nat → Int32} {h : Nat} : sameB R f h = true ↔ ∀ k, k < 6 → R.2.2.2.1 h k = f k := by
  unfold sameB
  rw [List.all_eq_true]
  exact ⟨fun z k hk => of_decide_eq_true (z k (List.mem_range.mpr hk)), fun z k hk => decide_eq_true (z k (List.mem_range.mp hk))⟩
def fndN (R : dR) (f : Nat → Int32) : Option Nat := fnF (sameB R f) R.2.2.1 0
def addH (R : dR) (f : Nat → Int32) (x y : Int32) : dR := (R.1, R.2.1, R.2.2.1 + 1, setF R.2.2.2.1 R.2.2.1 f, setF R.2.2.2.2.1 R.2.2.1 x, setF R.2.2.2.2.2.1 R.2.2.1 y, R.2.2.2.2.2.2)
def setHt (R : dR) (a b : Nat) (x : Int32) : dR := (R.1, R.2.1, R.2.2.1, R.2.2.2.1, R.2.2.2.2.1, R.2.2.2.2.2.1, (fun h k => if (h = a ∧ k = b) ∨ (h = b ∧ k = a) then x else R.2.2.2.2.2.2.1 h k), R.2.2.2.2.2.2.2)
def setCo (R : dR) (k : Nat) (C : List Nat) : dR := (R.1, R.2.1, R.2.2.1, R.2.2.2.1, R.2.2.2.2.1, R.2.2.2.2.2.1, R.2.2.2.2.2.2.1, setF R.2.2.2.2.2.2.2.1 k (some C), R.2.2.2.2.2.2.2.2 + C.length)
def houseB (T : dT) (q : Nat) (R : dR) : dZ := if R.2.2.1 = 7 then .inr (5, q) else match nmX T (nxt T q) with
  | some x => .inr x
  | none => match fndN R (nmOf T (nxt T q)) with
    | some _ => .inr (3, nxt T q)
    | none => wordF T 2 (nxt T (nxt T q)) (numF T 0 99 (nxt T (nxt T (nxt T q))) (wordF T 3 (nxt T (nxt T (nxt T (nxt T q)))) (numF T 0 9 (nxt T (nxt T (nxt T (nxt T (nxt T q))))) (.inl (nxt T (nxt T (nxt T (nxt T (nxt T (nxt T q))))), addH R (nmOf T (nxt T q)) (vlu T (nxt T (nxt T (nxt T q)))) (vlu T (nxt T (nxt T (nxt T (nxt T (nxt T q)))))))))))
def fdB2 (T : dT) (a q : Nat) (R : dR) : dZ := match nmX T q with
  | some x => .inr x
  | none => match fndN R (nmOf T q) with
    | none => .inr (3, q)
    | some b => if b = a ∨ 0 < R.2.2.2.2.2.2.1 a b then .inr (3, q) else wordF T 6 (nxt T q) (numF T 1 99 (nxt T (nxt T q)) (.inl (nxt T (nxt T (nxt T q)), setHt R a b (vlu T (nxt T (nxt T q))))))
def fdB (T : dT) (q : Nat) (R : dR) : dZ := match nmX T (nxt T q) with
  | some x => .inr x
  | none => match fndN R (nmOf T (nxt T q)) with
    | none => .inr (3, nxt T q)
    | some a => wordF T 5 (nxt T (nxt T q)) (fdB2 T a (nxt T (nxt T (nxt T q))) R)
def famB (T : dT) (q : Nat) (R : dR) : dZ := numF T 0 100 (nxt T q) (.inl (nxt T (nxt T q), (R.1, vlu T (nxt T q), R.2.2)))
def tkOf (k : Nat) : Nat := if k = 3 then 2 else if k = 2 ∨ k = 4 then 1 else 0
def runS (T : dT) (k q : Nat) (c : Nat → sC) : Prop := if k = 2 then tss T 1 (4, q, [], [], 0) (c 7) else str T (tkOf k) (0, q, [], [], 0) (c 3)
def ruleB (T : dT) (k q : Nat) (R : dR) (r : dZ) : Prop := (R.2.2.2.2.2.2.2.1 k ≠ none ∧ r = .inr (5, q)) ∨ (R.2.2.2.2.2.2.2.1 k = none ∧ ((∃ (q1 : Nat) (C : List Nat), runS T k (nxt T q) (fun e => (e, q1, C, [], 0)) ∧ evp (tkOf k) 38 (decide (k = 2)) C ∧ nxt T q < q1 ∧ q1 ≤ T.2 ∧ C.length ≤ q1 - nxt T q ∧ r = .inl (q1, setCo R k C)) ∨ ∃ e p, runS T k (nxt T q) (fun _ => xC e p) ∧ r = .inr (e, p)))
def stB (T : dT) (q : Nat) (R : dR) (r : dZ) : Prop := (wdn T q = 1 ∧ r = houseB T q R) ∨ (wdn T q = 4 ∧ r = fdB T q R) ∨ (∃ k, k < 5 ∧ wdn T q = nI (7 + k) ∧ ruleB T k q R r) ∨ (wdn T q = 12 ∧ r = famB T q R) ∨ ((wdn T q ≠ 1 ∧ wdn T q ≠ 4 ∧ (∀ k, k < 5 → wdn T q ≠ nI (7 + k)) ∧ wdn T q ≠ 12) ∧ r = .inr (1, q))
/-- i statements are told: what they tell, and where the next begins -/
def rch (T : dT) : Nat → Nat → dR → Prop
  | 0, _, _ => False
  | 1, q, R => bindS T (headB T) = .inl (q, R)
  | i + 2, q', R' => ∃ q R r, rch T (i + 1) q R ∧ tkk T q ≠ 0 ∧ stB T q R r ∧ bindS T r = .inl (q', R')
def txOk (T : dT) (i q : Nat) (R : dR) : Prop := rch T i q R ∧ tkk T q = 0 ∧ i ≤ 60
def txX (T : dT) (k p : Nat) : Prop := bindS T (headB T) = .inr (k, p) ∨ (∃ i q R r, rch T i q R ∧ i < 60 ∧ tkk T q ≠ 0 ∧ stB T q R r ∧ bindS T r = .inr (k, p)) ∨ ∃ q R, rch T 60 q R ∧ tkk T q ≠ 0 ∧ k = 5 ∧ p = q
/-- within its bounds -/
def vR (T : dT) (q : Nat) (R : dR) : Prop := inI 1 20 R.1 ∧ inI 0 100 R.2.1 ∧ R.2.2.1 ≤ 7 ∧ (∀ h, h < R.2.2.1 → vName (R.2.2.2.1 h)) ∧ (∀ h, inI 0 99 (R.2.2.2.2.1 h)) ∧ (∀ h, R.2.2.1 ≤ h → R.2.2.2.2.1 h = 0) ∧ (∀ h, inI 0 9 (R.2.2.2.2.2.1 h)) ∧ (∀ h k, inI 0 99 (R.2.2.2.2.2.2.1 h k)) ∧ (∀ h k, R.2.2.2.2.2.2.1 h k = R.2.2.2.2.2.2.1 k h) ∧ (∀ h, R.2.2.2.2.2.2.1 h h = 0) ∧ (∀ h k, 0 < R.2.2.2.2.2.2.1 h k → h < R.2.2.1 ∧ k < R.2.2.1) ∧ (∀ k C, R.2.2.2.2.2.2.2.1 k = some C → evp (tkOf k) 38 (decide (k = 2)) C) ∧ R.2.2.2.2.2.2.2.2 ≤ q ∧ q ≤ T.2
theorem nuX_in {T : dT} {q lo hi : Nat} (hq : q ≤ T.2) (h : nuX T q lo hi = none) : inI lo hi (vlu T q) ∧ q < nxt T q := by
  have hv := vlu_b hq
  have hn := nxt_b hq
  unfold nuX at h
  by_cases c : tkk T q = 2
  · rw [if_pos c] at h
    by_cases c2 : ten T q - q ≤ 4
    · rw [if_pos c2] at h
      by_cases c3 : lo ≤ (vlu T q).toInt.toNat ∧ (vlu T q).toInt.toNat ≤ hi
      · refine ⟨by unfold inI; omega, hn.2.2 ?_⟩
        rcases tkk_c T q with ⟨a1, a2, a3⟩ | ⟨a1, a2, a3, a4, a5⟩ | ⟨a1, a2, a3, a4, a5⟩ | ⟨a1, a2, a3, a4⟩
        · rw [a1] at c; exact absurd c (by decide)
        · exact a2
        · exact a2
        · exact a2
      · rw [if_neg c3] at h; cases h
    · rw [if_neg c2] at h; cases h
  · rw [if_neg c] at h; cases h
theorem numF_of {T : dT} {lo hi q : Nat} {f : dZ} {x : Nat × dR} (h : numF T lo hi q f = .inl x) : nuX T q lo hi = none ∧ f = .inl x := by
  unfold numF at h
  cases e : nuX T q lo hi with
  | none => rw [e] at h; exact ⟨rfl, h⟩
  | some y => rw [e] at h; cases h
theorem wordF_of {T : dT} {w : Int32} {q : Nat} {f : dZ} {x : Nat × dR} (h : wordF T w q f = .inl x) : wdn T q = w ∧ f = .inl x := by
  unfold wordF at h
  by_cases c : wdn T q = w
  · rw [if_pos c] at h; exact ⟨c, h⟩
  · rw [if_neg c] at h; cases h
theorem bindS_of {T : dT} {r : dZ} {x : Nat × dR} (h : bindS T r = .inl x) : ∃ y : Nat × dR, r = .inl y ∧ isS T y.1 59 = true ∧ x = (nxt T y.1, y.2) := by
  cases r with
  | inl y =>
    have h : enSg T y.1 y.2 = .inl x := h
    unfold enSg at h
    by_cases c : isS T y.1 59 = true
    · rw [if_pos c] at h; exact ⟨y, rfl, c, (Sum.inl.inj h).symm⟩
    · rw [if_neg c] at h; cases h
  | inr y => cases h
/-- the name that stands at q -/
theorem nm_v {T : dT} {q : Nat} (hq : q ≤ T.2) (h : nmX T q = none) : tkk T q = 1 ∧ ownW T q = false ∧ q < ten T q ∧ ten T q - q ≤ 6 ∧ ten T q ≤ T.2 ∧ ten T q = rn T isLt q ∧ (∀ k, k < ten T q - q → inI 1 26 (nmOf T q k)) ∧ ∀ k, ten T q - q ≤ k → nmOf T q k = 0 := by
  unfold nmX at h
  by_cases c : tkk T q = 1 ∧ ownW T q = false
  · rw [if_pos c] at h
    by_cases c2 : ten T q - q ≤ 6
    · have hb := ten_b hq
      have ht : q < T.2 ∧ ten T q = rn T isLt q := by
        rcases tkk_c T q with ⟨a1, a2, a3⟩ | ⟨a1, a2, a3, a4, a5⟩ | ⟨a1, a2, a3, a4, a5⟩ | ⟨a1, a2, a3, a4⟩
        · rw [a1] at c; exact absurd c.1 (by decide)
        · exact ⟨a2, a5⟩
        · rw [a1] at c; exact absurd c.1 (by decide)
        · rw [a1] at c; exact absurd c.1 (by decide)
      refine ⟨c.1, c.2, hb.2.2 ht.1, c2, hb.2.1, ht.2, fun k hk => ?_, fun k hk => by unfold nmOf; rw [if_neg (by omega)]⟩
      have hl := (rn_p (T := T) (P := isLt) hq).2.2.2 (q + k) (by omega) (by rw [← ht.2]; omega)
      unfold isLt at hl
      have hl := of_decide_eq_true hl
      unfold nmOf
      rw [if_pos (by omega)]
      have e : (T.1 (q + k) - 97 + 1).toInt = (T.1 (q + k)).toInt - 96 := by
        rw [Int32.toInt_add, Int32.toInt_sub]
        show (((T.1 (q + k)).toInt - 97).bmod _ + 1 : Int).bmod _ = _
        rw [bm32 (n := (T.1 (q + k)).toInt - 97) (by omega) (by omega), bm32 (by omega) (by omega)]; omega
      unfold inI
      rw [e]; omega
    · rw [if_neg c2] at h; cases h
  · rw [if_neg c] at h; cases h
theorem fnF_s {P : Nat → Bool} : ∀ (k h x : Nat), fnF P k h = some x → h ≤ x ∧ x < h + k ∧ P x = true
  | 0, h, x, e => by cases e
  | k + 1, h, x, e => by
    have e : (if P h = true then some h else fnF P k (h + 1)) = some x := e
    by_cases c : P h = true
    · rw [if_pos c] at e
      obtain rfl := Option.some.inj e
      exact ⟨Nat.le_refl _, by omega, c⟩
    · rw [if_neg c] at e
      have := fnF_s k (h + 1) x e
      exact ⟨by omega, by omega, this.2.2⟩
theorem fnd_lt {R : dR} {f : Nat → Int32} {x : Nat} (h : fndN R f = some x) : x < R.2.2.1 := by
  have := fnF_s _ _ _ h
  omega
theorem vR_head {T : dT} {q : Nat} {R : dR} (h : bindS T (headB T) = .inl (q, R)) : vR T q R := by
  obtain ⟨y, h1, h2, h3⟩ := bindS_of h
  unfold headB at h1
  obtain ⟨-, h4⟩ := wordF_of h1
  obtain ⟨h5, h6⟩ := numF_of h4
  have hq0 : rn T isBl 0 ≤ T.2 := (rn_p (T := T) (P := isBl) (Nat.zero_le _)).2.1
  have n1 := nxt_b hq0
  have n2 := nxt_b n1.2.1
  have n3 := nxt_b n2.2.1
  have hv := nuX_in n1.2.1 h5
  have h6 := Sum.inl.inj h6
  subst h6
  obtain ⟨rfl, rfl⟩ := Prod.mk.inj h3
  have i0 : ∀ b : Int, 0 ≤ b → inI 0 b (0 : Int32) := fun b hb => ⟨by decide, hb⟩
  refine ⟨hv.1, i0 100 (by decide), Nat.zero_le _, fun h hh => by have : h < 0 := hh; omega, fun h => i0 99 (by decide), fun _ _ => rfl, fun h => i0 9 (by decide), fun _ _ => i0 99 (by decide), fun _ _ => rfl, fun _ => rfl, fun h k hh => absurd (show (0 : Int32) < 0 from hh) (by decide), fun k C hC => (by cases hC), Nat.zero_le _, n3.2.1⟩
theorem setF_at {α : Type} {f : Nat → α} {k : Nat} {x : α} : setF f k x k = x := by unfold setF; rw [if_pos rfl]
theorem setF_ne {α : Type} {f : Nat → α} {k j : Nat} {x : α} (h : j ≠ k) : setF f k x j = f j := by unfold setF; rw [if_neg h]
set_option maxHeartbeats 4000000 in
theorem vR_step {T : dT} {q q' : Nat} {R R' : dR} {r : dZ} (v : vR T q R) (hs : stB T q R r) (h : bindS T r = .inl (q', R')) : vR T q' R' := by
  obtain ⟨y, h1, h2, h3⟩ := bindS_of h
  obtain ⟨v1, v2, v3, v4, v5, v6, v7, v8, v9, v10, v11, v12, v13, hq⟩ := id v
  have n1 := nxt_b hq
  have n2 := nxt_b n1.2.1
  have n3 := nxt_b n2.2.1
  have n4 := nxt_b n3.2.1
  have n5 := nxt_b n4.2.1
  have n6 := nxt_b n5.2.1
  have n7 := nxt_b n6.2.1
  obtain ⟨rfl, rfl⟩ := Prod.mk.inj h3
  subst h1
  rcases hs with ⟨-, hs⟩ | ⟨-, hs⟩ | ⟨k, hk, -, hs⟩ | ⟨-, hs⟩ | ⟨-, hs⟩
  · unfold houseB at hs
    by_cases c7 : R.2.2.1 = 7
    · rw [if_pos c7] at hs; cases hs
    · rw [if_neg c7] at hs
      cases hn : nmX T (nxt T q) with
      | some x => rw [hn] at hs; cases hs
      | none =>
        rw [hn] at hs
        simp only at hs
        cases hf : fndN R (nmOf T (nxt T q)) with
        | some x => rw [hf] at hs; cases hs
        | none =>
          rw [hf] at hs
          obtain ⟨-, hs⟩ := wordF_of hs.symm
          obtain ⟨u1, hs⟩ := numF_of hs
          obtain ⟨-, hs⟩ := wordF_of hs
          obtain ⟨u2, hs⟩ := numF_of hs
          have hs := Sum.inl.inj hs
          subst hs
          obtain ⟨w1, w2, w3, w4, w5, w6, w7, w8⟩ := nm_v n1.2.1 hn
          have i1 := (nuX_in n3.2.1 u1).1
          have i2 := (nuX_in n5.2.1 u2).1
          refine ⟨v1, v2, by show R.2.2.1 + 1 ≤ 7; omega, fun h hh => ?_, fun h => ?_, fun h hh => ?_, fun h => ?_, v8, v9, v10, fun h k z => ?_, v12, ?_, n7.2.1⟩
          · show vName (setF R.2.2.2.1 R.2.2.1 (nmOf T (nxt T q)) h)
            by_cases e : h = R.2.2.1
            · rw [e, setF_at]; exact ⟨ten T (nxt T q) - nxt T q, by omega, w4, w7, w8⟩
            · rw [setF_ne e]; exact v4 h (by have : h < R.2.2.1 + 1 := hh; omega)
          · show inI 0 99 (setF R.2.2.2.2.1 R.2.2.1 _ h)
            by_cases e : h = R.2.2.1
            · rw [e, setF_at]; exact i1
            · rw [setF_ne e]; exact v5 h
          · show setF R.2.2.2.2.1 R.2.2.1 _ h = 0
            have hh : R.2.2.1 + 1 ≤ h := hh
            rw [setF_ne (by omega)]; exact v6 h (by omega)
          · show inI 0 9 (setF R.2.2.2.2.2.1 R.2.2.1 _ h)
            by_cases e : h = R.2.2.1
            · rw [e, setF_at]; exact i2
            · rw [setF_ne e]; exact v7 h
          · have := v11 h k z
            show h < R.2.2.1 + 1 ∧ k < R.2.2.1 + 1
            omega
          · show R.2.2.2.2.2.2.2.2 ≤ _
            show R.2.2.2.2.2.2.2.2 ≤ nxt T (nxt T (nxt T (nxt T (nxt T (nxt T (nxt T q))))))
            omega
  · unfold fdB at hs
    cases hn : nmX T (nxt T q) with
    | some x => rw [hn] at hs; cases hs
    | none =>
      rw [hn] at hs
      simp only at hs
      cases hf : fndN R (nmOf T (nxt T q)) with
      | none => rw [hf] at hs; cases hs
      | some a =>
        rw [hf] at hs
        obtain ⟨-, hs⟩ := wordF_of hs.symm
        unfold fdB2 at hs
        cases hn2 : nmX T (nxt T (nxt T (nxt T q))) with
        | some x => rw [hn2] at hs; cases hs
        | none =>
          rw [hn2] at hs
          simp only at hs
          cases hf2 : fndN R (nmOf T (nxt T (nxt T (nxt T q)))) with
          | none => rw [hf2] at hs; cases hs
          | some b =>
            rw [hf2] at hs
            simp only at hs
            by_cases c : b = a ∨ 0 < R.2.2.2.2.2.2.1 a b
            · rw [if_pos c] at hs; cases hs
            · rw [if_neg c] at hs
              obtain ⟨-, hs⟩ := wordF_of hs
              obtain ⟨u1, hs⟩ := numF_of hs
              have hs := Sum.inl.inj hs
              subst hs
              have la := fnd_lt hf
              have lb := fnd_lt hf2
              have hab : b ≠ a := fun z => c (Or.inl z)
              have i1 := (nuX_in n5.2.1 u1).1
              refine ⟨v1, v2, v3, v4, v5, v6, v7, fun h k => ?_, fun h k => ?_, fun h => ?_, fun h k z => ?_, v12, ?_, n7.2.1⟩
              · show inI 0 99 (if (h = a ∧ k = b) ∨ (h = b ∧ k = a) then _ else R.2.2.2.2.2.2.1 h k)
                split
                · unfold inI at i1 ⊢; omega
                · exact v8 h k
              · show (if (h = a ∧ k = b) ∨ (h = b ∧ k = a) then _ else R.2.2.2.2.2.2.1 h k) = (if (k = a ∧ h = b) ∨ (k = b ∧ h = a) then _ else R.2.2.2.2.2.2.1 k h)
                by_cases c2 : (h = a ∧ k = b) ∨ (h = b ∧ k = a)
                · rw [if_pos c2, if_pos (by omega)]
                · rw [if_neg c2, if_neg (by omega)]; exact v9 h k
              · show (if (h = a ∧ h = b) ∨ (h = b ∧ h = a) then _ else R.2.2.2.2.2.2.1 h h) = 0
                rw [if_neg (by omega)]; exact v10 h
              · have z : 0 < (if (h = a ∧ k = b) ∨ (h = b ∧ k = a) then vlu T (nxt T (nxt T (nxt T (nxt T (nxt T q))))) else R.2.2.2.2.2.2.1 h k) := z
                show h < R.2.2.1 ∧ k < R.2.2.1
                by_cases c2 : (h = a ∧ k = b) ∨ (h = b ∧ k = a)
                · omega
                · rw [if_neg c2] at z; exact v11 h k z
              · show R.2.2.2.2.2.2.2.2 ≤ nxt T (nxt T (nxt T (nxt T (nxt T (nxt T (nxt T q))))))
                omega
  · rcases hs with ⟨-, hs⟩ | ⟨hnone, ⟨q1, C, hr, he, l1, l2, l3, hs⟩ | ⟨e, p, -, hs⟩⟩
    · cases hs
    · have hs := Sum.inl.inj hs
      subst hs
      have m1 := nxt_b l2
      refine ⟨v1, v2, v3, v4, v5, v6, v7, v8, v9, v10, v11, fun k2 C2 hC => ?_, ?_, m1.2.1⟩
      · have hC : setF R.2.2.2.2.2.2.2.1 k (some C) k2 = some C2 := hC
        by_cases e : k2 = k
        · subst e
          rw [setF_at] at hC
          obtain rfl := Option.some.inj hC
          exact he
        · rw [setF_ne e] at hC; exact v12 k2 C2 hC
      · show R.2.2.2.2.2.2.2.2 + C.length ≤ nxt T q1
        omega
    · cases hs
  · unfold famB at hs
    obtain ⟨u1, hs⟩ := numF_of hs.symm
    have hs := Sum.inl.inj hs
    subst hs
    have i1 := (nuX_in n1.2.1 u1).1
    refine ⟨v1, i1, v3, v4, v5, v6, v7, v8, v9, v10, v11, v12, ?_, n3.2.1⟩
    show R.2.2.2.2.2.2.2.2 ≤ nxt T (nxt T (nxt T q))
    omega
  · cases hs
theorem rch_v {T : dT} : ∀ (i q : Nat) (R : dR), rch T i q R → vR T q R
  | 0, _, _, h => h.elim
  | 1, _, _, h => vR_head h
  | i + 2, _, _, h => by
    obtain ⟨q, R, r, h1, -, h2, h3⟩ := h
    exact vR_step (rch_v (i + 1) q R h1) h2 h3
/-- names as numbers -/
theorem nameN_inj {f g : Nat → Int32} : ∀ (n m : Nat), (∀ k, k < n → inI 1 26 (f k)) → (∀ k, k < m → inI 1 26 (g k)) → nameN f n = nameN g m → n = m ∧ ∀ k, k < n → f k = g k
  | 0, 0, _, _, _ => ⟨rfl, fun k hk => by omega⟩
  | 0, m + 1, _, hg, h => by
    have := (nameN_div (hg m (by omega))).2.2
    rw [← h] at this
    exact absurd this (by unfold nameN; omega)
  | n + 1, 0, hf, _, h => by
    have := (nameN_div (hf n (by omega))).2.2
    rw [h] at this
    exact absurd this (by unfold nameN; omega)
  | n + 1, m + 1, hf, hg, h => by
    obtain ⟨a1, a2, -⟩ := nameN_div (hf n (by omega))
    obtain ⟨b1, b2, -⟩ := nameN_div (hg m (by omega))
    rw [h] at a1 a2
    obtain ⟨rfl, e⟩ := nameN_inj n m (fun k hk => hf k (by omega)) (fun k hk => hg k (by omega)) (a1.symm.trans b1)
    refine ⟨rfl, fun k hk => ?_⟩
    by_cases c : k = n
    · subst c
      have i1 := hf k (by omega)
      have i2 := hg k (by omega)
      unfold inI at i1 i2
      exact i32_eq.mpr (by omega)
    · exact e k (by omega)
theorem nameN_cg {f g : Nat → Int32} : ∀ (n : Nat), (∀ k, k < n → f k = g k) → nameN f n = nameN g n
  | 0, _ => rfl
  | n + 1, h => by
    show 27 * nameN f n + (f n).toInt.toNat = 27 * nameN g n + (g n).toInt.toNat
    rw [nameN_cg n (fun k hk => h k (by omega)), h n (by omega)]
theorem name_same {f g : Nat → Int32} {n m : Nat} (f1 : n ≤ 6) (f2 : ∀ k, k < n → inI 1 26 (f k)) (f3 : ∀ k, n ≤ k → f k = 0) (g1 : m ≤ 6) (g2 : ∀ k, k < m → inI 1 26 (g k)) (g3 : ∀ k, m ≤ k → g k = 0) : lN (nameN f n) = lN (nameN g m) ↔ ∀ k, k < 6 → f k = g k := by
  have l1 := nameN_lt f2 f1
  have l2 := nameN_lt g2 g1
  constructor
  · intro h
    have h : nameN f n = nameN g m := by
      have := congrArg Int64.toInt h
      rw [pk_lT (by omega), pk_lT (by omega)] at this
      omega
    obtain ⟨rfl, e⟩ := nameN_inj n m f2 g2 h
    intro k hk
    by_cases c : k < n
    · exact e k c
    · rw [f3 k (by omega), g3 k (by omega)]
  · intro h
    have z0 : (0 : Int32).toInt = 0 := rfl
    have hnm : n = m := by
      by_cases c1 : n < m
      · have a1 := g2 n c1
        rw [← h n (by omega), f3 n (by omega)] at a1
        unfold inI at a1; omega
      · by_cases c2 : m < n
        · have a1 := f2 m c2
          rw [h m (by omega), g3 m (by omega)] at a1
          unfold inI at a1; omega
        · omega
    subst hnm
    rw [nameN_cg n (fun k hk => h k (by omega))]
