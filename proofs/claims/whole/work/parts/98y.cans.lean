/-! ===== the class answers a question ===== -/
def vQ (U : dU) (N : dN) (C : List Nat) (h : Nat) : Int := match evl (fQ U N h) (ofQ U N h) (tas C) [] with
  | some [(v, _)] => v
  | _ => 0
def joinQ (kd : Nat) (a : Int64) (any : Bool) (h : Nat) (v : Int) : Int64 :=
  if kd = 0 then (if a = -1 then (if v = 0 then a else lN h) else a) else if kd = 1 then (if v = 0 then a else lN h) else if kd = 2 ∨ kd = 3 then a + Int64.ofInt v else
  if kd = 4 then (if any then (if Int64.ofInt v < a then a else Int64.ofInt v) else Int64.ofInt v) else (if any then (if Int64.ofInt v < a then Int64.ofInt v else a) else Int64.ofInt v)
def stQ (kd : Nat) (U : dU) (N : dN) (C : List Nat) (X : Int64 × Bool) (h : Nat) : Int64 × Bool := if N.2.1.testBit h then (joinQ kd X.1 X.2 h (vQ U N C h), true) else X
def ansQ (kd : Nat) (U : dU) (N : dN) (C : List Nat) (n : Nat) : Int64 × Bool := (List.range' 0 n).foldl (stQ kd U N C) (if kd < 2 then -1 else 0, false)
theorem ansQ_1 {kd : Nat} {U : dU} {N : dN} {C : List Nat} {n : Nat} : ansQ kd U N C (n + 1) = stQ kd U N C (ansQ kd U N C n) n := by
  unfold ansQ
  rw [List.range'_concat, List.foldl_append]
  simp only [Nat.zero_add, Nat.one_mul, List.foldl_cons, List.foldl_nil]
theorem evQ {U : dU} {N : dN} {C : List Nat} {h n : Nat} {b : Bool} (he : evp 3 n b C) (hn : n ≤ 64) : ∃ fl, evl (fQ U N h) (ofQ U N h) (tas C) [] = some [(vQ U N C h, fl)] ∧ (b = true → fl = true) := by
  obtain ⟨v, fl, h1, h2⟩ := he.2 (fQ U N h) (ofQ U N h) [] (fun w hw => by
    have hw : w ∈ [13, 2, 3, 14, 16, 17] := hw
    simp only [List.mem_cons, List.not_mem_nil, or_false] at hw
    rcases hw with rfl | rfl | rfl | rfl | rfl | rfl
    · exact ⟨_, rfl⟩
    · exact ⟨_, rfl⟩
    · exact ⟨_, rfl⟩
    · exact ⟨_, rfl⟩
    · exact ⟨_, rfl⟩
    · exact ⟨_, rfl⟩) (fun _ t a ht => by
    rcases ht with rfl | rfl
    · exact ⟨_, rfl⟩
    · exact ⟨_, rfl⟩) (by show 0 + n ≤ 64; omega)
  refine ⟨fl, ?_, h2⟩
  unfold vQ
  rw [h1]
