/-! ===== the reference: words in sums and tests ===== -/
theorem sh_w : ∀ i, i < 22 → mm_SH[217 + i]? = some (2, (wds.getD (wq.getD i 0) []).length) ∧ wq.getD i 0 < 30 := by decide +kernel
section
variable {T : dT} {tk q o d : Nat} {C S B : List Nat} {M : mm_M}
theorem m_hereQ {i : Nat} {K : Int32 → mm_M → Prop} (hi : i < 22) (hG : mm_G M.2.2) (h : mQs T tk q C S B o M) (h1 : wdn T q = nI (wq.getD i 0) → ∀ m, offM wLx M m → mQs T tk q C S B o m → mLp T q q m → K 1 m) (h0 : wdn T q ≠ nI (wq.getD i 0) → ∀ m, offM wLx M m → mQs T tk q C S B o m → mLp T q q m → K 0 m) : mm_CI mX12_isHere (d + 1) [.ref 164, .ref (217 + i)] M K :=
  m_isHere hG h.1 (sh_w i hi).2 (sh_w i hi).1 (mQs_w h hi) (by omega) (fun z m o' l => have o2 : offM wLx M m := offM_mono o' (fun c j y => by unfold wLx; omega)
    h1 z m o2 (mQs_lx h o2 ⟨_, l⟩) l) (fun z m o' l => have o2 : offM wLx M m := offM_mono o' (fun c j y => by unfold wLx; omega)
    h0 z m o2 (mQs_lx h o2 ⟨_, l⟩) l)
theorem m_takesQ {i : Nat} {K : Int32 → mm_M → Prop} (hi : i < 22) (hG : mm_G M.2.2) (h : mQs T tk q C S B o M) (h1 : wdn T q = nI (wq.getD i 0) → ∀ m, offM wLx M m → mQs T tk (nxt T q) C S B o m → K 1 m) (h0 : wdn T q ≠ nI (wq.getD i 0) → ∀ m, offM wLx M m → mQs T tk q C S B o m → mLp T q q m → K 0 m) : mm_CI mX12_takes (d + 2) [.ref 164, .ref (217 + i)] M K :=
  m_takesW hG h.1 (sh_w i hi).2 (sh_w i hi).1 (mQs_w h hi) (by omega) (fun z m o' l => h1 z m o' (mQs_lx h o' l)) (fun z m o' l => h0 z m o' (mQs_lx h o' ⟨_, l⟩) l)
theorem m_asksQ {i : Nat} {K : mm_M → Prop} (hi : i < 22) (hG : mm_G M.2.2) (h : mQs T tk q C S B o M) (h1 : wdn T q = nI (wq.getD i 0) → ∀ m, offM wLx M m → mQs T tk (nxt T q) C S B o m → K m) (h0 : wdn T q ≠ nI (wq.getD i 0) → ∀ m, offM wLx M m → mXs 1 q m → K m) : mm_CV mX12_asks (d + 3) [.ref 164, .ref (217 + i)] M K :=
  m_asksW hG h.1 (sh_w i hi).2 (sh_w i hi).1 (mQs_w h hi) (by omega) (fun z m o' l => h1 z m o' (mQs_lx h o' l)) h0
/-- which word it is, by the reference's numbers -/
def whR (tk : Nat) (w : Int32) : Int32 := if w = 2 then 0 else if w = 3 then 1 else if w = 14 then 2 else if w = 13 then 3 else if tk < 3 ∧ w = 6 then 4 else if w = 15 then 5 else if w = 16 then 6 else if w = 17 then 7 else if w = 6 then 8 else if w = 8 then 9 else -1
theorem m_wordHere {K : Int32 → mm_M → Prop} (hG : mm_G M.2.2) (h : mQs T tk q C S B o M) (hK : ∀ m, offM wLx M m → mQs T tk q C S B o m → mLp T q q m → K (whR tk (wdn T q)) m) : mm_CI mX12_qWordHere (d + 2) [.ref 164] M K := by
  have G : ∀ m, offM wLx M m → mm_G m.2.2 := fun m o' => by rw [o'.2.2]; exact hG
  have htk := h.2.2.2.2.2.2.2.2.1
  unfold whR at hK
  refine rX12_qWordHere hG (m_hereQ (i := 12) (by omega) hG h (fun z m o' s l => ineg (by decide) ?_) (fun n1 m o' s l => ipos rfl ?_))
  · have z : wdn T q = 2 := z; have := hK m o' s l; rw [if_pos z] at this; exact this
  have n1 : ¬ wdn T q = 2 := n1
  refine m_hereQ (i := 13) (by omega) (G m o') s (fun z m2 o2 s2 l2 => ineg (by decide) ?_) (fun n2 m2 o2 s2 l2 => ipos rfl ?_)
  · have z : wdn T q = 3 := z; have := hK m2 (offM_tr o' o2) s2 l2; rw [if_neg n1, if_pos z] at this; exact this
  have n2 : ¬ wdn T q = 3 := n2
  have o2' := offM_tr o' o2
  refine m_hereQ (i := 14) (by omega) (G m2 o2') s2 (fun z m3 o3 s3 l3 => ineg (by decide) ?_) (fun n3 m3 o3 s3 l3 => ipos rfl ?_)
  · have z : wdn T q = 14 := z; have := hK m3 (offM_tr o2' o3) s3 l3; rw [if_neg n1, if_neg n2, if_pos z] at this; exact this
  have n3 : ¬ wdn T q = 14 := n3
  have o3' := offM_tr o2' o3
  refine m_hereQ (i := 15) (by omega) (G m3 o3') s3 (fun z m4 o4 s4 l4 => ineg (by decide) ?_) (fun n4 m4 o4 s4 l4 => ipos rfl ?_)
  · have z : wdn T q = 13 := z; have := hK m4 (offM_tr o3' o4) s4 l4; rw [if_neg n1, if_neg n2, if_neg n3, if_pos z] at this; exact this
  have n4 : ¬ wdn T q = 13 := n4
  have o4' := offM_tr o3' o4
  have rest : ¬ (tk < 3 ∧ wdn T q = 6) → ∀ m5, offM wLx M m5 → mQs T tk q C S B o m5 → jX12_qWordHere_73 (d + 1) m5 K := fun n5 m5 o5' s5 => by
    refine lX12_qWordHere_73 (G m5 o5') (m_hereQ (i := 17) (by omega) (G m5 o5') s5 (fun z m6 o6 s6 l6 => ineg (by decide) ?_) (fun n6 m6 o6 s6 l6 => ipos rfl ?_))
    · have z : wdn T q = 15 := z; have := hK m6 (offM_tr o5' o6) s6 l6; rw [if_neg n1, if_neg n2, if_neg n3, if_neg n4, if_neg n5, if_pos z] at this; exact this
    have n6 : ¬ wdn T q = 15 := n6
    have o6' := offM_tr o5' o6
    refine m_hereQ (i := 18) (by omega) (G m6 o6') s6 (fun z m7 o7 s7 l7 => ineg (by decide) ?_) (fun n7 m7 o7 s7 l7 => ipos rfl ?_)
    · have z : wdn T q = 16 := z; have := hK m7 (offM_tr o6' o7) s7 l7; rw [if_neg n1, if_neg n2, if_neg n3, if_neg n4, if_neg n5, if_neg n6, if_pos z] at this; exact this
    have n7 : ¬ wdn T q = 16 := n7
    have o7' := offM_tr o6' o7
    refine m_hereQ (i := 19) (by omega) (G m7 o7') s7 (fun z m8 o8 s8 l8 => ineg (by decide) ?_) (fun n8 m8 o8 s8 l8 => ipos rfl ?_)
    · have z : wdn T q = 17 := z; have := hK m8 (offM_tr o7' o8) s8 l8; rw [if_neg n1, if_neg n2, if_neg n3, if_neg n4, if_neg n5, if_neg n6, if_neg n7, if_pos z] at this; exact this
    have n8 : ¬ wdn T q = 17 := n8
    have o8' := offM_tr o7' o8
    refine m_hereQ (i := 20) (by omega) (G m8 o8') s8 (fun z m9 o9 s9 l9 => ineg (by decide) ?_) (fun n9 m9 o9 s9 l9 => ipos rfl ?_)
    · have z : wdn T q = 6 := z; have := hK m9 (offM_tr o8' o9) s9 l9; rw [if_neg n1, if_neg n2, if_neg n3, if_neg n4, if_neg n5, if_neg n6, if_neg n7, if_neg n8, if_pos z] at this; exact this
    have n9 : ¬ wdn T q = 6 := n9
    have o9' := offM_tr o8' o9
    refine m_hereQ (i := 21) (by omega) (G m9 o9') s9 (fun z m10 o10 s10 l10 => ineg (by decide) ?_) (fun n10 m10 o10 s10 l10 => ipos rfl ?_)
    · have z : wdn T q = 8 := z; have := hK m10 (offM_tr o9' o10) s10 l10; rw [if_neg n1, if_neg n2, if_neg n3, if_neg n4, if_neg n5, if_neg n6, if_neg n7, if_neg n8, if_neg n9, if_pos z] at this; exact this
    · have n10 : ¬ wdn T q = 8 := n10
      have := hK m10 (offM_tr o9' o10) s10 l10; rw [if_neg n1, if_neg n2, if_neg n3, if_neg n4, if_neg n5, if_neg n6, if_neg n7, if_neg n8, if_neg n9, if_neg n10] at this; exact this
  rw [s4.2.2.2.2.2.2.2.1]
  by_cases c3 : tk < 3
  · refine ineg (nI_ge (b := 3) c3 (by decide)) (m_hereQ (i := 16) (by omega) (G m4 o4') s4 (fun z m5 o5 s5 l5 => ineg (by decide) ?_) (fun n5 m5 o5 s5 l5 => ipos rfl (rest (fun y => n5 y.2) m5 (offM_tr o4' o5) s5)))
    have z : wdn T q = 6 := z; have := hK m5 (offM_tr o4' o5) s5 l5; rw [if_neg n1, if_neg n2, if_neg n3, if_neg n4, if_pos ⟨c3, z⟩] at this; exact this
  · exact ipos (nI_le (a := 3) (by omega) (by omega)) (rest (fun y => c3 y.1) m4 o4' s4)
def alR (tk k : Nat) : Bool := if tk = 0 then decide (k < 5) else if tk = 1 then decide (k < 4) else if tk = 2 then decide (3 ≤ k ∧ k ≤ 5) else decide (k < 4 ∨ 5 < k)
theorem m_allowed {k : Nat} {K : Int32 → mm_M → Prop} (hG : mm_G M.2.2) (h : M.1 164 49 = nI tk) (ht : tk < 4) (hk : k < 20) (h1 : alR tk k = true → K 1 M) (h0 : alR tk k = false → K 0 M) : mm_CI mX12_isAllowed (d + 1) [.ref 164, .int (nI k)] M K := by
  have e3 : (3 : Int64).toInt = 3 := rfl
  have e5 : (5 : Int64).toInt = 5 := rfl
  unfold alR at h1 h0
  refine rX12_isAllowed hG ?_
  rw [h]
  by_cases c0 : tk = 0
  · rw [if_pos c0] at h1 h0
    subst c0
    refine ipos rfl ?_
    by_cases c : k < 5
    · exact ineg (nI_ge (b := 5) c (by decide)) (h1 (decide_eq_true c))
    · exact ipos (nI_le (a := 5) (by omega) (by omega)) (h0 (decide_eq_false c))
  rw [if_neg c0] at h1 h0
  refine ineg (fun z => c0 ((nI_eq (b := 0) (by omega) (by decide)).mp z)) ?_
  by_cases c1 : tk = 1
  · rw [if_pos c1] at h1 h0
    subst c1
    refine ipos rfl ?_
    by_cases c : k < 4
    · exact ineg (nI_ge (b := 4) c (by decide)) (h1 (decide_eq_true c))
    · exact ipos (nI_le (a := 4) (by omega) (by omega)) (h0 (decide_eq_false c))
  rw [if_neg c1] at h1 h0
  refine ineg (fun z => c1 ((nI_eq (b := 1) (by omega) (by decide)).mp z)) ?_
  by_cases c2 : tk = 2
  · rw [if_pos c2] at h1 h0
    subst c2
    refine ipos rfl (m_isIn hG (fun z => ⟨Or.inr rfl, h1 (decide_eq_true ?_)⟩) (fun z => ⟨Or.inl rfl, h0 (decide_eq_false ?_)⟩))
    · rw [i64_of, nI_toInt (by omega), e3, e5] at z; omega
    · rw [i64_of, nI_toInt (by omega), e3, e5] at z; omega
  rw [if_neg c2] at h1 h0
  refine ineg (fun z => c2 ((nI_eq (b := 2) (by omega) (by decide)).mp z)) ?_
  by_cases c : k < 4
  · exact ipos (nI_lt (b := 4) c (by decide)) (h1 (decide_eq_true (Or.inl c)))
  · refine ineg (nI_nlt (b := 4) (by omega) (by omega)) ?_
    by_cases c5 : k ≤ 5
    · exact ipos (nI_le (b := 5) c5 (by decide)) (h0 (decide_eq_false (by omega)))
    · exact ineg (nI_ge (a := 5) (by omega) (by omega)) (h1 (decide_eq_true (by omega)))
/-- a word within bounds, or none -/
def woR (lo : Nat) (tk : Nat) (w : Int32) : Int32 := if lo = 0 then (match prt tk w with
  | some p => nI p
  | none => -1) else if tk = 3 ∧ w = 6 then 8 else if tk = 3 ∧ w = 8 then 9 else -1
theorem whR_c0 : ∀ x, x < 124 → (whR (x / 31) (if x % 31 = 30 then -1 else nI (x % 31)) = -1 ∧ woR 0 (x / 31) (if x % 31 = 30 then -1 else nI (x % 31)) = -1 ∧ woR 8 (x / 31) (if x % 31 = 30 then -1 else nI (x % 31)) = -1) ∨ (∃ k, k < 10 ∧ whR (x / 31) (if x % 31 = 30 then -1 else nI (x % 31)) = nI k ∧ woR 0 (x / 31) (if x % 31 = 30 then -1 else nI (x % 31)) = (if k < 8 ∧ alR (x / 31) k = true then nI k else -1) ∧ woR 8 (x / 31) (if x % 31 = 30 then -1 else nI (x % 31)) = (if 8 ≤ k ∧ alR (x / 31) k = true then nI k else -1)) := by decide +kernel
theorem whR_c (ht : tk < 4) (q : Nat) : (whR tk (wdn T q) = -1 ∧ woR 0 tk (wdn T q) = -1 ∧ woR 8 tk (wdn T q) = -1) ∨ (∃ k, k < 10 ∧ whR tk (wdn T q) = nI k ∧ woR 0 tk (wdn T q) = (if k < 8 ∧ alR tk k = true then nI k else -1) ∧ woR 8 tk (wdn T q) = (if 8 ≤ k ∧ alR tk k = true then nI k else -1)) := by
  rcases wdn_c T q with h | ⟨-, j, hj, h⟩
  · have := whR_c0 (31 * tk + 30) (by omega)
    rw [show (31 * tk + 30) / 31 = tk by omega, show (31 * tk + 30) % 31 = 30 by omega, if_pos rfl] at this
    rw [h]; exact this
  · have := whR_c0 (31 * tk + j) (by omega)
    rw [show (31 * tk + j) / 31 = tk by omega, show (31 * tk + j) % 31 = j by omega, if_neg (by omega)] at this
    rw [h]; exact this
theorem m_wordOf {lo hi : Nat} {K : Int32 → mm_M → Prop} (hG : mm_G M.2.2) (h : mQs T tk q C S B o M) (hl : (lo = 0 ∧ hi = 8) ∨ (lo = 8 ∧ hi = 10)) (hK : ∀ m, offM wLx M m → mQs T tk q C S B o m → mLp T q q m → K (woR lo tk (wdn T q)) m) : mm_CI mX12_qWordOf (d + 3) [.ref 164, .int (nI lo), .int (nI hi)] M K := by
  have htk := h.2.2.2.2.2.2.2.2.1
  refine rX12_qWordOf hG (m_wordHere hG h (fun m o' s l => ?_))
  have hKm := hK m o' s l
  have hGm : mm_G m.2.2 := by rw [o'.2.2]; exact hG
  rcases whR_c (T := T) htk q with ⟨e1, e2, e3⟩ | ⟨k, hk, e1, e2, e3⟩
  · rw [e1]
    refine ipos ?_ ?_
    · rcases hl with ⟨rfl, rfl⟩ | ⟨rfl, rfl⟩ <;> decide
    · rcases hl with ⟨rfl, rfl⟩ | ⟨rfl, rfl⟩
      · rw [e2] at hKm; exact hKm
      · rw [e3] at hKm; exact hKm
  · rw [e1]
    rcases hl with ⟨rfl, rfl⟩ | ⟨rfl, rfl⟩
    · rw [e2] at hKm
      refine ineg (nI_nlt (b := 0) (by omega) (by omega)) ?_
      by_cases c8 : k < 8
      · refine ineg (nI_ge (b := 8) c8 (by decide)) (m_allowed hGm s.2.2.2.2.2.2.2.1 htk (by omega) (fun z => ineg (by decide) ?_) (fun z => ipos rfl ?_))
        · rw [if_pos ⟨c8, z⟩] at hKm; exact hKm
        · rw [if_neg (fun y => by rw [z] at y; exact absurd y.2 (by decide))] at hKm; exact hKm
      · rw [if_neg (fun y => c8 y.1)] at hKm
        exact ipos (nI_le (a := 8) (by omega) (by omega)) hKm
    · rw [e3] at hKm
      by_cases c8 : k < 8
      · rw [if_neg (by omega)] at hKm
        exact ipos (nI_lt (b := 8) c8 (by decide)) hKm
      · refine ineg (nI_nlt (b := 8) (by omega) (by omega)) (ineg (nI_ge (b := 10) hk (by decide)) (m_allowed hGm s.2.2.2.2.2.2.2.1 htk (by omega) (fun z => ineg (by decide) ?_) (fun z => ipos rfl ?_)))
        · rw [if_pos ⟨by omega, z⟩] at hKm; exact hKm
        · rw [if_neg (fun y => by rw [z] at y; exact absurd y.2 (by decide))] at hKm; exact hKm
end
