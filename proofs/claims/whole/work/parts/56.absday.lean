/-! ===== the abstract day keeps its bounds ===== -/
theorem pickF_some (f : Nat → Bool) (w : Nat → Int) : ∀ (l : List Nat) (acc : Option (Nat × Int)), (∀ q, acc = some q → f q.1 = true ∧ q.2 = w q.1) → ∀ q, l.foldl (pickS f w) acc = some q → (f q.1 = true ∧ q.2 = w q.1) ∧ ((∃ q0, acc = some q0 ∧ q0.1 = q.1) ∨ q.1 ∈ l)
  | [], acc, h, q, hq => ⟨h q hq, Or.inl ⟨q, hq, rfl⟩⟩
  | b :: l, acc, h, q, hq => by
    have step : ∀ q, pickS f w acc b = some q → (f q.1 = true ∧ q.2 = w q.1) ∧ ((∃ q0, acc = some q0 ∧ q0.1 = q.1) ∨ q.1 = b) := by
      intro q hq
      unfold pickS at hq
      by_cases hb : f b = true
      · rw [if_pos hb] at hq
        match acc, h, hq with
        | none, _, hq => cases hq; exact ⟨⟨hb, rfl⟩, Or.inr rfl⟩
        | some (b0, w0), h, hq =>
          simp only at hq
          by_cases hw : w0 < w b
          · rw [if_pos hw] at hq; cases hq; exact ⟨⟨hb, rfl⟩, Or.inr rfl⟩
          · rw [if_neg hw] at hq; cases hq; exact ⟨h _ rfl, Or.inl ⟨_, rfl, rfl⟩⟩
      · rw [if_neg hb] at hq; exact ⟨h q hq, Or.inl ⟨q, hq, rfl⟩⟩
    have ih := pickF_some f w l (pickS f w acc b) (fun q hq => (step q hq).1) q hq
    refine ⟨ih.1, ?_⟩
    rcases ih.2 with ⟨q0, e0, e1⟩ | hm
    · rcases (step q0 e0).2 with ⟨q1, e2, e3⟩ | e2
      · exact Or.inl ⟨q1, e2, e3.trans e1⟩
      · exact Or.inr (by rw [← e1, e2]; exact List.mem_cons_self)
    · exact Or.inr (List.mem_cons_of_mem _ hm)
theorem pickA_some {U : dU} {N : dN} {e busy b : Nat} (h : pickA U N e busy = some b) : b < 7 ∧ able U N e busy b = true := by
  unfold pickA at h
  cases hq : (List.range' 0 7).foldl (pickS (able U N e busy) (fun b => worth U N b e)) none with
  | none => rw [hq] at h; cases h
  | some q =>
    rw [hq] at h
    have hb : q.1 = b := Option.some.inj h
    obtain ⟨⟨h1, -⟩, h2⟩ := pickF_some _ _ _ _ (fun q hq => by cases hq) q hq
    subst hb
    refine ⟨?_, h1⟩
    rcases h2 with ⟨q0, e0, -⟩ | hm
    · cases e0
    · have := List.mem_range'_1.mp hm; omega
theorem able_of {U : dU} {N : dN} {e busy b : Nat} (h : able U N e busy b = true) : 0 < N.2.2.2.2 e b ∧ U.1 ≤ N.2.2.1 b ∧ busy.testBit b = false := by
  unfold able at h
  simp only [Bool.and_eq_true, decide_eq_true_eq, Bool.not_eq_true'] at h
  exact ⟨h.1.1, h.1.2, h.2⟩
theorem i32_sub {x y : Int32} {a b : Int} (hx : inI a b x) (h : -1000000 ≤ a ∧ b ≤ 1000000) {c d : Int} (hy : inI c d y) (h' : -1000000 ≤ c ∧ d ≤ 1000000) : (x - y).toInt = x.toInt - y.toInt := by
  unfold inI at hx hy
  rw [Int32.toInt_sub, bm32 (by omega) (by omega)]
theorem i32_add {x y : Int32} {a b : Int} (hx : inI a b x) (h : -1000000 ≤ a ∧ b ≤ 1000000) {c d : Int} (hy : inI c d y) (h' : -1000000 ≤ c ∧ d ≤ 1000000) : (x + y).toInt = x.toInt + y.toInt := by
  unfold inI at hx hy
  rw [Int32.toInt_add, bm32 (by omega) (by omega)]
theorem more1_in {x : Int32} (h : inI 0 9 x) : inI 0 9 (more1 x) := by
  unfold more1
  have e : (x + 1).toInt = x.toInt + 1 := i32_add h (by omega) (y := 1) (c := 1) (d := 1) (by unfold inI; decide) (by omega)
  have e9 : (9 : Int32).toInt = 9 := rfl
  unfold inI at *
  by_cases c : x + 1 < 9
  · rw [if_pos c]; have := i32_lt.mp c; omega
  · rw [if_neg c]; omega
theorem setF_in {P : Int32 → Prop} {f : Nat → Int32} {k : Nat} {x : Int32} (h : ∀ j, P (f j)) (hx : P x) : ∀ j, P (setF f k x j) := by
  intro j
  unfold setF
  by_cases c : j = k
  · rw [if_pos c]; exact hx
  · rw [if_neg c]; exact h j
theorem hungA_v {U : dU} {N : dN} {e : Nat} (h : vN U N) : vN U (hungA N e) := ⟨h.1, h.2.1, h.2.2.1, setF_in h.2.2.2.1 (more1_in (h.2.2.2.1 e)), h.2.2.2.2⟩
theorem eatA_v {U : dU} {N : dN} {b e : Nat} (hU : vU U) (h : vN U N) (hb : U.1 ≤ N.2.2.1 b) : vN U (eatA U N b e) := by
  refine ⟨h.1, h.2.1, setF_in h.2.2.1 ?_, setF_in h.2.2.2.1 (by unfold inI; decide), h.2.2.2.2⟩
  have e1 := i32_sub (h.2.2.1 b) (by omega) hU.1 (by omega)
  have h1 := h.2.2.1 b
  have h2 := hU.1
  have h3 := i32_le.mp hb
  unfold inI at *
  rw [e1]
  omega
theorem serveS_v {U : dU} {S : dS} {e : Nat} (hU : vU U) (h : vN U S.1) : vN U (serveS U S e).1 := by
  unfold serveS
  by_cases c : S.1.2.1.testBit e = true
  · rw [if_pos c]
    cases hp : pickA U S.1 e S.2.1 with
    | none => exact hungA_v h
    | some b => exact eatA_v hU h (able_of (pickA_some hp).2).2.1
  · rw [if_neg c]; exact h
theorem or_lt7 {a b : Nat} (ha : a < 128) (hb : b < 7) : a ||| 2 ^ b < 128 := (bit_or a ha b hb).2
theorem serveS_b {U : dU} {S : dS} {e : Nat} (h : S.2.1 < 128) : (serveS U S e).2.1 < 128 := by
  unfold serveS
  by_cases c : S.1.2.1.testBit e = true
  · rw [if_pos c]
    cases hp : pickA U S.1 e S.2.1 with
    | none => exact h
    | some b => exact or_lt7 h (pickA_some hp).1
  · rw [if_neg c]; exact h
theorem serveS_d {U : dU} {S : dS} {e : Nat} : (serveS U S e).1.1 = S.1.1 ∧ (serveS U S e).1.2.1 = S.1.2.1 ∧ (serveS U S e).1.2.2.2.2 = S.1.2.2.2.2 := by
  unfold serveS
  by_cases c : S.1.2.1.testBit e = true
  · rw [if_pos c]
    cases hp : pickA U S.1 e S.2.1 with
    | none => exact ⟨rfl, rfl, rfl⟩
    | some b => exact ⟨rfl, rfl, rfl⟩
  · rw [if_neg c]; exact ⟨rfl, rfl, rfl⟩
theorem fold_v {α : Type} {P : α → Prop} {f : α → Nat → α} (hf : ∀ x i, P x → P (f x i)) : ∀ (l : List Nat) (x : α), P x → P (l.foldl f x)
  | [], _, h => h
  | i :: l, x, h => fold_v hf l (f x i) (hf x i h)
theorem serveA_v {U : dU} {N : dN} {rest : Nat} (hU : vU U) (h : vN U N) : vN U (serveA U N rest).1 := fold_v (P := fun S : dS => vN U S.1) (fun _ _ h => serveS_v hU h) _ _ h
theorem serveA_d {U : dU} {N : dN} {rest : Nat} : (serveA U N rest).1.1 = N.1 ∧ (serveA U N rest).1.2.1 = N.2.1 ∧ (serveA U N rest).1.2.2.2.2 = N.2.2.2.2 := fold_v (P := fun S : dS => S.1.1 = N.1 ∧ S.1.2.1 = N.2.1 ∧ S.1.2.2.2.2 = N.2.2.2.2) (fun S i h => by
  obtain ⟨a, b, c⟩ := serveS_d (U := U) (S := S) (e := i)
  exact ⟨a.trans h.1, b.trans h.2.1, c.trans h.2.2⟩) _ _ ⟨rfl, rfl, rfl⟩
theorem clr_le (b h : Nat) : b - (if b.testBit h then 2 ^ h else 0) ≤ b := Nat.sub_le _ _
theorem bit_lt {U : dU} {N : dN} {h : Nat} (hN : vN U N) (hb : N.2.1.testBit h = true) : h < U.2.1 := by
  apply Decidable.byContradiction
  intro q
  have := Nat.testBit_lt_two_pow (i := h) (x := N.2.1) (Nat.lt_of_lt_of_le hN.2.1 (Nat.pow_le_pow_right (by omega) (by omega)))
  rw [this] at hb; cases hb
theorem goneA_v {U : dU} {N : dN} {h : Nat} (hU : vU U) (hN : vN U N) (hh : h < 7) : vN U (goneA N h) := by
  obtain ⟨n1, n2, n3, n4, n5, n6, n7, n8⟩ := id hN
  have h128 := vN_lt hU hN
  refine ⟨n1, Nat.lt_of_le_of_lt (clr_le _ _) n2, n3, n4, fun i j => ?_, fun i j => ?_, fun i => ?_, fun i j hp => ?_⟩
  · show inI 0 99 (if i = h ∨ j = h then 0 else N.2.2.2.2 i j)
    by_cases c : i = h ∨ j = h
    · rw [if_pos c]; unfold inI; decide
    · rw [if_neg c]; exact n5 i j
  · show (if i = h ∨ j = h then (0 : Int32) else N.2.2.2.2 i j) = (if j = h ∨ i = h then 0 else N.2.2.2.2 j i)
    by_cases c : i = h ∨ j = h
    · rw [if_pos c, if_pos c.symm]
    · rw [if_neg c, if_neg (fun q => c q.symm), n6 i j]
  · show (if i = h ∨ i = h then (0 : Int32) else N.2.2.2.2 i i) = 0
    by_cases c : i = h ∨ i = h
    · rw [if_pos c]
    · rw [if_neg c, n7 i]
  · have hp : (0 : Int32) < (if i = h ∨ j = h then 0 else N.2.2.2.2 i j) := hp
    by_cases c : i = h ∨ j = h
    · rw [if_pos c] at hp; exact absurd hp (by decide)
    · rw [if_neg c] at hp
      obtain ⟨b1, b2⟩ := n8 i j hp
      have hi := bit_lt hN b1
      have hj := bit_lt hN b2
      have hu := hU.2.1
      show (N.2.1 - (if N.2.1.testBit h then 2 ^ h else 0)).testBit i = true ∧ (N.2.1 - (if N.2.1.testBit h then 2 ^ h else 0)).testBit j = true
      rw [clr_bit _ h128 h hh i (by omega), clr_bit _ h128 h hh j (by omega), b1, b2]
      simp only [not_or] at c
      simp [c.1, c.2]
theorem starveS_v {U : dU} {N : dN} {h : Nat} (hU : vU U) (hN : vN U N) : vN U (starveS U N h) := by
  unfold starveS
  by_cases c : (N.2.1.testBit h && starvesA U N h) = true
  · rw [if_pos c]
    have := bit_lt hN (Bool.and_eq_true_iff.mp c).1
    exact goneA_v hU hN (by have := hU.2.1; omega)
  · rw [if_neg c]; exact hN
theorem starveA_v {U : dU} {N : dN} (hU : vU U) (h : vN U N) : vN U (starveA U N) := fold_v (P := vN U) (fun _ _ h => starveS_v hU h) _ _ h
theorem setH_v {U : dU} {N : dN} {a b : Nat} {x : Int32} (hN : vN U N) (hab : a ≠ b) (hx : inI 0 99 x) (ht : 0 < x → N.2.1.testBit a = true ∧ N.2.1.testBit b = true) : vN U (setH N a b x) := by
  obtain ⟨n1, n2, n3, n4, n5, n6, n7, n8⟩ := hN
  refine ⟨n1, n2, n3, n4, fun i j => ?_, fun i j => ?_, fun i => ?_, fun i j hp => ?_⟩
  · show inI 0 99 (if (i = a ∧ j = b) ∨ (i = b ∧ j = a) then x else N.2.2.2.2 i j)
    by_cases c : (i = a ∧ j = b) ∨ (i = b ∧ j = a)
    · rw [if_pos c]; exact hx
    · rw [if_neg c]; exact n5 i j
  · show (if (i = a ∧ j = b) ∨ (i = b ∧ j = a) then x else N.2.2.2.2 i j) = (if (j = a ∧ i = b) ∨ (j = b ∧ i = a) then x else N.2.2.2.2 j i)
    by_cases c : (i = a ∧ j = b) ∨ (i = b ∧ j = a)
    · rw [if_pos c, if_pos (by omega)]
    · rw [if_neg c, if_neg (by omega), n6 i j]
  · show (if (i = a ∧ i = b) ∨ (i = b ∧ i = a) then x else N.2.2.2.2 i i) = 0
    rw [if_neg (by omega), n7 i]
  · have hp : (0 : Int32) < (if (i = a ∧ j = b) ∨ (i = b ∧ j = a) then x else N.2.2.2.2 i j) := hp
    by_cases c : (i = a ∧ j = b) ∨ (i = b ∧ j = a)
    · rw [if_pos c] at hp
      have := ht hp
      rcases c with ⟨rfl, rfl⟩ | ⟨rfl, rfl⟩
      · exact this
      · exact this.symm
    · rw [if_neg c] at hp; exact n8 i j hp
theorem coolS_v {U : dU} {bt : Nat → Option (Nat × Int32)} {N : dN} {a b : Nat} (hN : vN U N) : vN U (coolS U bt a N b) := by
  unfold coolS
  by_cases c : 0 < N.2.2.2.2 a b
  · rw [if_pos c]
    refine setH_v hN (fun q => ?_) (bnd_in _) (fun _ => hN.2.2.2.2.2.2.2 a b c)
    subst q
    rw [hN.2.2.2.2.2.2.1 a] at c
    exact absurd c (by decide)
  · rw [if_neg c]; exact hN
theorem coolA_v {U : dU} {bt : Nat → Option (Nat × Int32)} {N : dN} (h : vN U N) : vN U (coolA U bt N) := fold_v (P := vN U) (fun _ _ h => fold_v (P := vN U) (fun _ _ h => coolS_v h) _ _ h) _ _ h
theorem growS_v {U : dU} {N : dN} {h : Nat} (hN : vN U N) : vN U (growS U N h) := by
  unfold growS
  by_cases c : N.2.1.testBit h = true
  · rw [if_pos c]; exact ⟨hN.1, hN.2.1, setF_in hN.2.2.1 (bnd_in _), hN.2.2.2⟩
  · rw [if_neg c]; exact hN
theorem growA_v {U : dU} {N : dN} (h : vN U N) : vN U (growA U N) := fold_v (P := vN U) (fun _ _ h => growS_v h) _ _ h
theorem dayA_v {U : dU} {N : dN} {rest : Nat} (hU : vU U) (h : vN U N) : vN U (dayA U N rest) := growA_v (coolA_v (starveA_v hU (serveA_v hU h)))
/-! the day's number stays; who is there grows less -/
theorem starveS_d {U : dU} {N : dN} {h : Nat} : (starveS U N h).1 = N.1 := by
  unfold starveS
  by_cases c : (N.2.1.testBit h && starvesA U N h) = true
  · rw [if_pos c]; rfl
  · rw [if_neg c]
theorem coolS_d {U : dU} {bt : Nat → Option (Nat × Int32)} {N : dN} {a b : Nat} : (coolS U bt a N b).1 = N.1 ∧ (coolS U bt a N b).2.1 = N.2.1 := by
  unfold coolS
  by_cases c : 0 < N.2.2.2.2 a b
  · rw [if_pos c]; exact ⟨rfl, rfl⟩
  · rw [if_neg c]; exact ⟨rfl, rfl⟩
theorem growS_d {U : dU} {N : dN} {h : Nat} : (growS U N h).1 = N.1 ∧ (growS U N h).2.1 = N.2.1 := by
  unfold growS
  by_cases c : N.2.1.testBit h = true
  · rw [if_pos c]; exact ⟨rfl, rfl⟩
  · rw [if_neg c]; exact ⟨rfl, rfl⟩
theorem starveA_d {U : dU} {N : dN} : (starveA U N).1 = N.1 := fold_v (P := fun x : dN => x.1 = N.1) (fun _ _ h => starveS_d.trans h) _ _ rfl
theorem coolA_d {U : dU} {bt : Nat → Option (Nat × Int32)} {N : dN} : (coolA U bt N).1 = N.1 ∧ (coolA U bt N).2.1 = N.2.1 := by
  unfold coolA
  refine fold_v (P := fun x : dN => x.1 = N.1 ∧ x.2.1 = N.2.1) (fun x a h => ?_) _ _ ⟨rfl, rfl⟩
  refine fold_v (P := fun x : dN => x.1 = N.1 ∧ x.2.1 = N.2.1) (fun z b h => ?_) _ _ h
  exact ⟨(coolS_d (U := U) (bt := bt) (N := z) (a := a) (b := b)).1.trans h.1, (coolS_d (U := U) (bt := bt) (N := z) (a := a) (b := b)).2.trans h.2⟩
theorem growA_d {U : dU} {N : dN} : (growA U N).1 = N.1 ∧ (growA U N).2.1 = N.2.1 := fold_v (P := fun x : dN => x.1 = N.1 ∧ x.2.1 = N.2.1) (fun _ _ h => ⟨growS_d.1.trans h.1, growS_d.2.trans h.2⟩) _ _ ⟨rfl, rfl⟩
theorem dayA_d {U : dU} {N : dN} {rest : Nat} : (dayA U N rest).1 = N.1 := by
  unfold dayA
  rw [growA_d.1, coolA_d.1, starveA_d, serveA_d.1]
