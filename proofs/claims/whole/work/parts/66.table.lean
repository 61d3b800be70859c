/-! ===== the table: most eaters, then least hate, from the last house on ===== -/
def better (q a : Nat × Nat) : Bool := decide (a.1 < q.1 ∨ (q.1 = a.1 ∧ q.2 < a.2))
/-- a table of a house on, by a baker -/
def tbC (hc : Nat → Nat → Nat) (e busy : Nat) (prev : Nat → Nat × Nat) (b : Nat) : Nat × Nat := (1 + (prev (busy ||| 2 ^ b)).1, hc e b + (prev (busy ||| 2 ^ b)).2)
def tbS (sv : Nat → Nat → Bool) (hc : Nat → Nat → Nat) (e busy : Nat) (prev : Nat → Nat × Nat) (acc : Nat × Nat) (b : Nat) : Nat × Nat := if sv e b && !(busy.testBit b) then (if better (tbC hc e busy prev b) acc then tbC hc e busy prev b else acc) else acc
/-- of the last k houses: how many eat at most, with how little hate -/
def tb (sv : Nat → Nat → Bool) (hc : Nat → Nat → Nat) : Nat → Nat → Nat × Nat
  | 0, _ => (0, 0)
  | k + 1, busy => (List.range' 0 7).foldl (tbS sv hc (6 - k) busy (tb sv hc k)) (tb sv hc k busy)
def enc (q : Nat × Nat) : Nat := 1000 * q.1 - q.2
def okq (k : Nat) (q : Nat × Nat) : Prop := q.1 ≤ k ∧ q.2 ≤ 99 * q.1
theorem tbS_ok {sv : Nat → Nat → Bool} {hc : Nat → Nat → Nat} (h9 : ∀ e b, hc e b ≤ 99) {k e busy : Nat} {prev : Nat → Nat × Nat} (hp : ∀ z, okq k (prev z)) {acc : Nat × Nat} (ha : okq (k + 1) acc) {b : Nat} : okq (k + 1) (tbS sv hc e busy prev acc b) := by
  unfold tbS
  by_cases c : (sv e b && !(busy.testBit b)) = true
  · rw [if_pos c]
    by_cases c2 : better (tbC hc e busy prev b) acc = true
    · rw [if_pos c2]
      have h1 := hp (busy ||| 2 ^ b)
      have h2 := h9 e b
      unfold okq at *
      unfold tbC
      constructor
      · show 1 + (prev (busy ||| 2 ^ b)).1 ≤ k + 1; omega
      · show hc e b + (prev (busy ||| 2 ^ b)).2 ≤ 99 * (1 + (prev (busy ||| 2 ^ b)).1); omega
    · rw [if_neg c2]; exact ha
  · rw [if_neg c]; exact ha
theorem tb_ok {sv : Nat → Nat → Bool} {hc : Nat → Nat → Nat} (h9 : ∀ e b, hc e b ≤ 99) : ∀ (k busy : Nat), okq k (tb sv hc k busy)
  | 0, _ => ⟨Nat.le_refl _, Nat.zero_le _⟩
  | k + 1, busy => by
    have ih := tb_ok (sv := sv) h9 k
    refine fold_v (P := okq (k + 1)) (fun x i h => tbS_ok h9 ih h) _ _ ?_
    have := ih busy
    unfold okq at *; omega
theorem enc_lt {k : Nat} {q a : Nat × Nat} (hk : k ≤ 7) (hq : okq k q) (ha : okq k a) : enc a < enc q ↔ better q a = true := by
  unfold okq at hq ha
  unfold enc better
  rw [decide_eq_true_iff]
  omega
theorem enc_eq {k : Nat} {q a : Nat × Nat} (hk : k ≤ 7) (hq : okq k q) (ha : okq k a) : enc a = enc q ↔ a = q := by
  refine ⟨fun h => ?_, fun h => by rw [h]⟩
  unfold okq at hq ha
  unfold enc at h
  obtain ⟨q1, q2⟩ := q
  obtain ⟨a1, a2⟩ := a
  simp only at *
  have : a1 = q1 := by omega
  have : a2 = q2 := by omega
  subst_vars; rfl
theorem enc_le {k : Nat} {q : Nat × Nat} (hk : k ≤ 7) (hq : okq k q) : enc q ≤ 7000 := by
  unfold okq at hq; unfold enc; omega
theorem enc_C {hc : Nat → Nat → Nat} (h9 : ∀ e b, hc e b ≤ 99) {k e busy b : Nat} {prev : Nat → Nat × Nat} (hp : ∀ z, okq k (prev z)) : enc (tbC hc e busy prev b) = (1000 - hc e b) + enc (prev (busy ||| 2 ^ b)) := by
  have h1 := hp (busy ||| 2 ^ b)
  have h2 := h9 e b
  unfold okq at h1
  unfold enc tbC
  show 1000 * (1 + (prev (busy ||| 2 ^ b)).1) - (hc e b + (prev (busy ||| 2 ^ b)).2) = _
  omega
theorem tbC_ok {hc : Nat → Nat → Nat} (h9 : ∀ e b, hc e b ≤ 99) {k e busy b : Nat} {prev : Nat → Nat × Nat} (hp : ∀ z, okq k (prev z)) : okq (k + 1) (tbC hc e busy prev b) := by
  have h1 := hp (busy ||| 2 ^ b)
  have h2 := h9 e b
  unfold okq at *
  unfold tbC
  constructor
  · show 1 + (prev (busy ||| 2 ^ b)).1 ≤ k + 1; omega
  · show hc e b + (prev (busy ||| 2 ^ b)).2 ≤ 99 * (1 + (prev (busy ||| 2 ^ b)).1); omega
/-- who bakes for the house that stands k ahead of the last, if some bake already -/
def fbP (sv : Nat → Nat → Bool) (hc : Nat → Nat → Nat) (k busy b : Nat) : Bool := sv (6 - k) b && !(busy.testBit b) && decide (tbC hc (6 - k) busy (tb sv hc k) b = tb sv hc (k + 1) busy)
def fbA (sv : Nat → Nat → Bool) (hc : Nat → Nat → Nat) (k busy : Nat) : Option Nat := if tb sv hc k busy = tb sv hc (k + 1) busy then none else (List.range' 0 7).find? (fbP sv hc k busy)
theorem fold_from {α : Type} {f : α → Nat → α} : ∀ (l : List Nat) (x : α), (l.foldl f x = x) ∨ ∃ b ∈ l, ∃ y, l.foldl f x = f y b ∧ f y b ≠ y
  | [], x => Or.inl rfl
  | i :: l, x => by
    rcases fold_from l (f x i) with h | ⟨b, hb, y, h1, h2⟩
    · by_cases c : f x i = x
      · left; rw [List.foldl_cons, h, c]
      · right; exact ⟨i, List.mem_cons_self, x, by rw [List.foldl_cons, h], c⟩
    · right; exact ⟨b, List.mem_cons_of_mem _ hb, y, by rw [List.foldl_cons]; exact h1, h2⟩
theorem fb_some {sv : Nat → Nat → Bool} {hc : Nat → Nat → Nat} {k busy : Nat} (h : tb sv hc k busy ≠ tb sv hc (k + 1) busy) : ∃ b, b < 7 ∧ fbP sv hc k busy b = true := by
  rcases fold_from (f := tbS sv hc (6 - k) busy (tb sv hc k)) (List.range' 0 7) (tb sv hc k busy) with q | ⟨b, hb, y, h1, h2⟩
  · exact absurd q.symm h
  · have h1 : tb sv hc (k + 1) busy = tbS sv hc (6 - k) busy (tb sv hc k) y b := h1
    refine ⟨b, by have := List.mem_range'_1.mp hb; omega, ?_⟩
    unfold tbS at h1 h2
    by_cases c : (sv (6 - k) b && !(busy.testBit b)) = true
    · rw [if_pos c] at h1 h2
      by_cases c2 : better (tbC hc (6 - k) busy (tb sv hc k) b) y = true
      · rw [if_pos c2] at h1
        unfold fbP
        rw [c, h1]
        simp
      · rw [if_neg c2] at h2; exact absurd rfl h2
    · rw [if_neg c] at h2; exact absurd rfl h2
theorem find_first {p : Nat → Bool} : ∀ (k i : Nat), (∃ b, i ≤ b ∧ b < i + k ∧ p b = true) → ∃ b, (List.range' i k).find? p = some b ∧ i ≤ b ∧ b < i + k ∧ p b = true ∧ ∀ j, i ≤ j → j < b → p j = false
  | 0, i, ⟨b, h1, h2, _⟩ => by omega
  | k + 1, i, ⟨b, h1, h2, h3⟩ => by
    rw [List.range'_succ]
    by_cases c : p i = true
    · exact ⟨i, by rw [List.find?_cons_of_pos c], Nat.le_refl _, by omega, c, fun j q1 q2 => by omega⟩
    · have hb : b ≠ i := fun e => c (e ▸ h3)
      obtain ⟨b', q1, q2, q3, q4, q5⟩ := find_first k (i + 1) ⟨b, by omega, by omega, h3⟩
      refine ⟨b', by rw [List.find?_cons_of_neg c]; exact q1, by omega, by omega, q4, fun j w1 w2 => ?_⟩
      by_cases e : j = i
      · subst e; simpa using c
      · exact q5 j (by omega) w2
/-- what fbA says -/
theorem fbA_is {sv : Nat → Nat → Bool} {hc : Nat → Nat → Nat} {k busy : Nat} : (fbA sv hc k busy = none ∧ tb sv hc k busy = tb sv hc (k + 1) busy) ∨ ∃ b, fbA sv hc k busy = some b ∧ tb sv hc k busy ≠ tb sv hc (k + 1) busy ∧ b < 7 ∧ fbP sv hc k busy b = true ∧ ∀ j, j < b → fbP sv hc k busy j = false := by
  unfold fbA
  by_cases c : tb sv hc k busy = tb sv hc (k + 1) busy
  · left; rw [if_pos c]; exact ⟨rfl, c⟩
  · right
    rw [if_neg c]
    obtain ⟨b0, w1, w2⟩ := fb_some c
    obtain ⟨b, q1, q2, q3, q4, q5⟩ := find_first (p := fbP sv hc k busy) 7 0 ⟨b0, by omega, by omega, w2⟩
    exact ⟨b, q1, c, by omega, q4, fun j hj => q5 j (by omega) hj⟩
theorem fbP_of {sv : Nat → Nat → Bool} {hc : Nat → Nat → Nat} {k busy b : Nat} (h : fbP sv hc k busy b = true) : sv (6 - k) b = true ∧ busy.testBit b = false ∧ tbC hc (6 - k) busy (tb sv hc k) b = tb sv hc (k + 1) busy := by
  unfold fbP at h
  simp only [Bool.and_eq_true, decide_eq_true_eq, Bool.not_eq_true'] at h
  exact ⟨h.1.1, h.1.2, h.2⟩
def rowS (sv : Nat → Nat → Bool) (hc : Nat → Nat → Nat) (S : Nat × (Nat → Option Nat)) (e : Nat) : Nat × (Nat → Option Nat) := (match fbA sv hc (6 - e) S.1 with
  | none => S.1
  | some b => S.1 ||| 2 ^ b, setF S.2 e (fbA sv hc (6 - e) S.1))
def rowA (sv : Nat → Nat → Bool) (hc : Nat → Nat → Nat) : Nat → Option Nat := ((List.range' 0 7).foldl (rowS sv hc) (0, fun _ => none)).2
/-- whose bread is taken by whom, now -/
def svN (U : dU) (N : dN) (e b : Nat) : Bool := decide (0 < N.2.2.2.2 e b) && decide (U.1 ≤ N.2.2.1 b)
def hcN (N : dN) (e b : Nat) : Nat := (N.2.2.2.2 e b).toInt.toNat
theorem hcN_9 {U : dU} {N : dN} (vn : vN U N) (e b : Nat) : hcN N e b ≤ 99 := by
  have := vn.2.2.2.2.1 e b
  unfold inI at this; unfold hcN; omega
theorem hcN_nI {U : dU} {N : dN} (vn : vN U N) (e b : Nat) : N.2.2.2.2 e b = nI (hcN N e b) := by
  have := vn.2.2.2.2.1 e b
  unfold inI at this
  unfold hcN
  exact i32_nI this.1
theorem svN_lt {U : dU} {N : dN} (vn : vN U N) {e b : Nat} (h : svN U N e b = true) : e < U.2.1 ∧ b < U.2.1 := by
  unfold svN at h
  simp only [Bool.and_eq_true, decide_eq_true_eq] at h
  have := vn.2.2.2.2.2.2.2 e b h.1
  exact ⟨bit_lt vn this.1, bit_lt vn this.2⟩
