/-! ===== feuds that can be ended; what was seen: abstract ===== -/
def feudB (N : dN) (p : Nat) : Bool := decide (p / 8 < p % 8 ∧ p % 8 < 7) && decide (0 < N.2.2.2.2 (p / 8) (p % 8))
def feudTo (N : dN) (n : Nat) : List Nat := (List.range' 0 n).filter (feudB N)
def feudP (N : dN) : List Nat := feudTo N 56
def endS (l : List Nat) (bits : Nat) (X : dN) (i : Nat) : dN := if bits.testBit i then setH X (l.getD i 0 / 8) (l.getD i 0 % 8) 0 else X
def endA (N : dN) (l : List Nat) (bits : Nat) : dN := (List.range' 0 l.length).foldl (endS l bits) N
/-- who is there behind n days, feuds of a set being ended now -/
def leftA (U : dU) (N : dN) (n bits : Nat) : Nat := (daysC U 0 n (endA N (feudP N) bits)).2.1
def goodS (U : dU) (N : dN) (n bits : Nat) : Prop := ∀ h, h < 7 → (leftA U N n 0).testBit h = true → (leftA U N n bits).testBit h = true
def bestP (U : dU) (N : dN) (n b : Nat) : Prop := b < 2 ^ (feudP N).length ∧ (b ≠ 0 → goodS U N n b) ∧ ∀ s, 1 ≤ s → s < 2 ^ (feudP N).length → goodS U N n s → pop s < pop b ∨ (pop s = pop b ∧ b ≤ s)
def spareR (U : dU) (N : dN) (n : Nat) (m : mm_M) : Prop := (feudP N).length ≤ 10 ∧ ∃ b, bestP U N n b ∧ m.1 156 0 = nI b ∧ m.1 156 2 = nI (feudP N).length ∧ ∀ k p, (feudP N)[k]? = some p → m.1 157 k = nI p
/-! what was seen -/
def supA (N : dN) (h v : Nat) : dN := (N.1, N.2.1, setF N.2.2.1 h (nI v), N.2.2.2.1, N.2.2.2.2)
def tasteAt (U : dU) (N : dN) (d e : Nat) : Option (Nat × Int32) := (serveA U (daysC U 0 d N) 0).2.2.1 e
def fitK (U : dU) (N : dN) (S : dSE) (h v k : Nat) : Bool := decide (N.1.toInt + (S.2 (3 * k)).toInt < 999) && decide (taR true (tasteAt U (supA N h v) (S.2 (3 * k)).toInt.toNat (S.2 (3 * k + 1)).toInt.toNat) = S.2 (3 * k + 2))
def fitA (U : dU) (N : dN) (S : dSE) (h v : Nat) : Bool := (List.range' 0 S.1).all (fitK U N S h v)
def fitTo (U : dU) (N : dN) (S : dSE) (h n : Nat) : List Nat := (List.range' 0 n).filter (fitA U N S h)
def lookR (U : dU) (N : dN) (S : dSE) (h : Nat) (m : mm_M) : Prop := m.1 159 1 = nI (fitTo U N S h 100).length ∧ m.1 159 2 = pickR (fitTo U N S h 100).head? ∧ m.1 159 3 = pickR (fitTo U N S h 100).getLast? ∧ ∀ v, v < 100 → m.1 161 v = if fitA U N S h v then 1 else 0
def likeS (f : Nat → Option Int32) (X : (Option Int32 → Nat) × Nat) (v : Nat) : (Option Int32 → Nat) × Nat := (fun k => if k = f v then X.1 k + 1 else X.1 k, max X.2 (X.1 (f v) + 1))
def keyA (U : dU) (N : dN) (h d e v : Nat) : Option Int32 := (tasteAt U (supA N h v) d e).map (·.2)
/-- of the flours that fit, how many taste alike at most -/
def mostA (U : dU) (N : dN) (S : dSE) (h d e : Nat) : Nat := ((fitTo U N S h 100).foldl (likeS (keyA U N h d e)) (fun _ => 0, 0)).2
def tellS (f : Nat → Nat → Nat) (d : Nat) (acc : Option (Nat × Nat × Nat)) (e : Nat) : Option (Nat × Nat × Nat) := match acc with
  | none => some (d, e, f d e)
  | some q => if f d e < q.2.2 then some (d, e, f d e) else some q
def daysL (N : dN) : Nat := min 31 (999 - N.1.toInt).toNat
def tellA (U : dU) (N : dN) (S : dSE) (h : Nat) : Option (Nat × Nat × Nat) := if (fitTo U N S h 100).length = 0 then none else (List.range' 0 (daysL N)).foldl (fun acc d => (List.range' 0 U.2.1).foldl (tellS (mostA U N S h) d) acc) none
def chooseR (U : dU) (N : dN) (S : dSE) (h : Nat) (m : mm_M) : Prop := m.1 159 4 = pickR ((tellA U N S h).map (·.1)) ∧ m.1 159 5 = pickR ((tellA U N S h).map (·.2.1)) ∧ m.1 159 6 = pickR ((tellA U N S h).map (·.2.2))
/-! what the class has at hand from earlier searches, at version V -/
def nofut (V : Nat) (x : Int32) : Prop := ∀ k, V < k → k < 2 ^ 31 → x ≠ nI k
def cC (V : Nat) (U : dU) (N : dN) (S : dSE) (M : mm_M) : Prop := (nofut V (M.1 149 5) ∧ nofut V (M.1 149 6) ∧ nofut V (M.1 156 3) ∧ nofut V (M.1 159 11) ∧ nofut V (M.1 159 13)) ∧ (M.1 149 5 = nI V → tabR U N M) ∧ (M.1 149 6 = nI V → wantR U N M) ∧ (∀ n, 1 ≤ n → n ≤ 20 → M.1 156 3 = nI V → M.1 156 4 = nI n → spareR U N n M) ∧ (∀ h, h < 7 → M.1 159 11 = nI V → M.1 159 12 = nI h → lookR U N S h M) ∧ (∀ h, h < 7 → M.1 159 13 = nI V → M.1 159 14 = nI h → chooseR U N S h M)
theorem wantR_of {U : dU} {N : dN} {M m : mm_M} (h : wantR U N M) (h1 : m.1 149 3 = M.1 149 3) (h2 : ∀ k, m.1 151 k = M.1 151 k) : wantR U N m := by
  unfold wantR at h ⊢
  cases hw : wantA U N with
  | some r =>
    rw [hw] at h
    exact ⟨by rw [h1]; exact h.1, h.2.1, fun k p q => by rw [h2]; exact h.2.2 k p q⟩
  | none =>
    rw [hw] at h
    show m.1 149 3 = -1
    rw [h1]; exact h
theorem cC_off {W : Nat → Nat → Prop} {V : Nat} {U : dU} {N : dN} {S : dSE} {M m : mm_M} (h : cC V U N S M) (ho : offA W M m) (hW : ∀ c j, W c j → ¬ (149 ≤ c ∧ c ≤ 161 ∧ ¬ (c = 152 ∨ c = 153 ∨ c = 154 ∨ c = 155 ∨ c = 158 ∨ c = 160))) : cC V U N S m := by
  obtain ⟨⟨a1, a2, a3, a4, a5⟩, b1, b2, b3, b4, b5⟩ := h
  have g : ∀ c j, (149 ≤ c ∧ c ≤ 161 ∧ ¬ (c = 152 ∨ c = 153 ∨ c = 154 ∨ c = 155 ∨ c = 158 ∨ c = 160)) → m.1 c j = M.1 c j := fun c j q => ho.1 c j (fun z => hW c j z q)
  have g149 : ∀ j, m.1 149 j = M.1 149 j := fun j => g _ _ (by omega)
  have g156 : ∀ j, m.1 156 j = M.1 156 j := fun j => g _ _ (by omega)
  have g159 : ∀ j, m.1 159 j = M.1 159 j := fun j => g _ _ (by omega)
  refine ⟨⟨by rw [g149]; exact a1, by rw [g149]; exact a2, by rw [g156]; exact a3, by rw [g159]; exact a4, by rw [g159]; exact a5⟩, fun q => ?_, fun q => ?_, fun n n1 n2 q1 q2 => ?_, fun h hh q1 q2 => ?_, fun h hh q1 q2 => ?_⟩
  · rw [g149] at q
    obtain ⟨t1, t2, t3⟩ := b1 q
    exact ⟨by rw [g149]; exact t1, by rw [g149]; exact t2, fun e he => by rw [g 150 e (by omega)]; exact t3 e he⟩
  · rw [g149] at q
    exact wantR_of (b2 q) (g149 3) (fun k => g 151 k (by omega))
  · rw [g156] at q1 q2
    obtain ⟨t0, b, t1, t2, t3, t4⟩ := b3 n n1 n2 q1 q2
    exact ⟨t0, b, t1, by rw [g156]; exact t2, by rw [g156]; exact t3, fun k p hp => by rw [g 157 k (by omega)]; exact t4 k p hp⟩
  · rw [g159] at q1 q2
    obtain ⟨t1, t2, t3, t4⟩ := b4 h hh q1 q2
    exact ⟨by rw [g159]; exact t1, by rw [g159]; exact t2, by rw [g159]; exact t3, fun v hv => by rw [g 161 v (by omega)]; exact t4 v hv⟩
  · rw [g159] at q1 q2
    obtain ⟨t1, t2, t3⟩ := b5 h hh q1 q2
    exact ⟨by rw [g159]; exact t1, by rw [g159]; exact t2, by rw [g159]; exact t3⟩
/-- behind an act nothing is at hand -/
theorem cC_new {W : Nat → Nat → Prop} {V : Nat} {U U' : dU} {N N' : dN} {S S' : dSE} {M m : mm_M} (h : cC V U N S M) (hV : V < 2 ^ 30) (ho : offA W M m) (hW : ∀ c j, W c j → ¬ ((c = 149 ∧ (j = 5 ∨ j = 6)) ∨ (c = 156 ∧ j = 3) ∨ (c = 159 ∧ (j = 11 ∨ j = 13)))) : cC (V + 1) U' N' S' m := by
  obtain ⟨⟨a1, a2, a3, a4, a5⟩, -⟩ := h
  have g : ∀ c j, ((c = 149 ∧ (j = 5 ∨ j = 6)) ∨ (c = 156 ∧ j = 3) ∨ (c = 159 ∧ (j = 11 ∨ j = 13))) → m.1 c j = M.1 c j := fun c j q => ho.1 c j (fun z => hW c j z q)
  have up : ∀ x, nofut V x → nofut (V + 1) x := fun x hx k k1 k2 => hx k (by omega) k2
  have no : ∀ x, nofut V x → x = nI (V + 1) → False := fun x hx q => hx (V + 1) (by omega) (by omega) q
  refine ⟨⟨by rw [g _ _ (by omega)]; exact up _ a1, by rw [g _ _ (by omega)]; exact up _ a2, by rw [g _ _ (by omega)]; exact up _ a3, by rw [g _ _ (by omega)]; exact up _ a4, by rw [g _ _ (by omega)]; exact up _ a5⟩, fun q => ?_, fun q => ?_, fun n n1 n2 q1 q2 => ?_, fun h hh q1 q2 => ?_, fun h hh q1 q2 => ?_⟩
  · rw [g _ _ (by omega)] at q; exact (no _ a1 q).elim
  · rw [g _ _ (by omega)] at q; exact (no _ a2 q).elim
  · rw [g _ _ (by omega)] at q1; exact (no _ a3 q1).elim
  · rw [g _ _ (by omega)] at q1; exact (no _ a4 q1).elim
  · rw [g _ _ (by omega)] at q1; exact (no _ a5 q1).elim
