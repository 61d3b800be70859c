theorem mm_G_up {f : Nat → Nat → Option Nat} {a j : Nat} {r : Option Nat} (h : mm_G f) (hn : ∀ q ∈ mm_FIN, ¬ (q.1 = a ∧ q.2.1 = j)) : mm_G (va_up f a (va_up (f a) j r)) := by
  intro q hq
  have h1 := h q hq
  have h2 := hn q hq
  by_cases ha : q.1 = a
  · have hj : ¬ q.2.1 = j := fun e => h2 ⟨ha, e⟩
    rw [ha, va_up_self, va_up_ne _ _ hj, ← ha]
    exact h1
  · rw [va_up_ne _ _ ha]
    exact h1
theorem mm_nf_Rd_0 {a : Nat} (ha : a ∈ mm_Rds) : ∀ q ∈ mm_FIN, ¬ (q.1 = a ∧ q.2.1 = 0) := (by decide +kernel : ∀ a ∈ mm_Rds, ∀ q ∈ mm_FIN, ¬ (q.1 = a ∧ q.2.1 = 0)) a ha
theorem mm_nf_Rd_13 {a : Nat} (ha : a ∈ mm_Rds) : ∀ q ∈ mm_FIN, ¬ (q.1 = a ∧ q.2.1 = 13) := (by decide +kernel : ∀ a ∈ mm_Rds, ∀ q ∈ mm_FIN, ¬ (q.1 = a ∧ q.2.1 = 13)) a ha
theorem mm_vin {i : Int32} {n k : Nat} (hi : i = nI k) (h : k < n) (hn : n < 2 ^ 31) : vp_in i n := by subst hi; exact vp_in_nI h hn
theorem mm_ift {c A B : Prop} [Decidable c] (hc : c) (h : if c then A else B) : A := by rw [if_pos hc] at h; exact h
theorem mm_iff {c A B : Prop} [Decidable c] (hc : ¬ c) (h : if c then A else B) : B := by rw [if_neg hc] at h; exact h
