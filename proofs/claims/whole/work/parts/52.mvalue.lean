/-! the reference's pile: the memory with pile p and height n -/
def mm_pq (M : mm_M) (p : Nat → Int64) (n : Int32) : mm_M := (va_up M.1 164 (upd (M.1 164) 111 n), va_up M.2.1 241 p, M.2.2)
theorem upd_upd (f : Nat → Int32) (k : Nat) (x y : Int32) : upd (upd f k x) k y = upd f k y := by
  funext j
  by_cases hj : j = k <;> simp [upd, hj]
theorem up_id {α : Type} (f : Nat → α) (a : Nat) : va_up f a (f a) = f := by
  funext c
  by_cases h : c = a
  · rw [h, va_up_self]
  · rw [va_up_ne _ _ h]
theorem upd_id (f : Nat → Int32) (k : Nat) : upd f k (f k) = f := by
  funext j
  by_cases hj : j = k <;> simp [upd, hj]
theorem pq_n (M : mm_M) (p : Nat → Int64) (n : Int32) : (mm_pq M p n).1 164 111 = n := by simp [mm_pq, va_up, upd]
theorem pq_f (M : mm_M) (p : Nat → Int64) (n : Int32) {j : Nat} (h : j ≠ 111) : (mm_pq M p n).1 164 j = M.1 164 j := by simp [mm_pq, va_up, upd, h]
theorem pq_c {M : mm_M} {p : Nat → Int64} {n : Int32} {c : Nat} (h : c ≠ 164) : (mm_pq M p n).1 c = M.1 c := va_up_ne _ _ h
theorem pq_p (M : mm_M) (p : Nat → Int64) (n : Int32) : (mm_pq M p n).2.1 241 = p := by
  show va_up M.2.1 241 p 241 = p
  rw [va_up_self]
theorem pq_l {M : mm_M} {p : Nat → Int64} {n : Int32} {c : Nat} (h : c ≠ 241) : (mm_pq M p n).2.1 c = M.2.1 c := va_up_ne _ _ h
theorem pq_uI (M : mm_M) (p : Nat → Int64) (n x : Int32) : mm_uI (mm_pq M p n) 164 111 x = mm_pq M p x := by
  show (va_up (va_up M.1 164 (upd (M.1 164) 111 n)) 164 (upd (va_up M.1 164 (upd (M.1 164) 111 n) 164) 111 x), va_up M.2.1 241 p, M.2.2) = _
  rw [bx_uu, va_up_self, upd_upd]
  rfl
theorem pq_uL (M : mm_M) (p : Nat → Int64) (n : Int32) (k : Nat) (x : Int64) : mm_uL (mm_pq M p n) 241 k x = mm_pq M (vp_updL p k x) n := by
  show (va_up M.1 164 (upd (M.1 164) 111 n), va_up (va_up M.2.1 241 p) 241 (vp_updL (va_up M.2.1 241 p 241) k x), M.2.2) = _
  rw [bx_uu, va_up_self]
  rfl
theorem pq_id (M : mm_M) : mm_pq M (M.2.1 241) (M.1 164 111) = M := by
  unfold mm_pq
  rw [upd_id, up_id, up_id]
/-- qPuts -/
theorem m_puts {d n : Nat} {x : Int64} {M : mm_M} {p : Nat → Int64} {K : mm_M → Prop} (hG : mm_G M.2.2) (hn : n < 1700) (hK : K (mm_pq M (vp_updL p n x) (nI (n + 1)))) : mm_CV mX12_qPuts d [.ref 164, .long x] (mm_pq M p (nI n)) K := by
  refine rX12_qPuts (M := mm_pq M p (nI n)) hG ?_
  rw [pq_n, nI_clamp (by omega), pq_uL, pq_n, pq_uI, nI_1]
  exact ⟨vp_in_nI hn (by decide), hK⟩
theorem m_clip {d : Nat} {x : Int64} {M : mm_M} {K : Int64 → mm_M → Prop} (hG : mm_G M.2.2) (hK : ∀ z : Int64, z.toInt = clz x.toInt → K z M) : mm_CL mX12_qClip d [.long x] M K := by
  refine rX12_qClip hG ?_
  by_cases h1 : x ≤ 1000000
  · have h1' : x.toInt ≤ 1000000 := i64_le.mp h1
    rw [if_pos h1]
    by_cases h2 : (-1000000) ≤ x
    · have h2' : -1000000 ≤ x.toInt := i64_le.mp h2
      rw [if_pos h2]; exact hK _ (by rw [clz, if_pos h1', if_pos h2'])
    · have h2' : ¬ -1000000 ≤ x.toInt := fun q => h2 (i64_le.mpr q)
      rw [if_neg h2]; exact hK _ (by rw [clz, if_pos h1', if_neg h2']; rfl)
  · have h1' : ¬ x.toInt ≤ 1000000 := fun q => h1 (i64_le.mpr q)
    rw [if_neg h1]; exact hK _ (by rw [clz, if_neg h1']; rfl)
theorem m_floor {d : Nat} {x1 x2 : Int64} {M : mm_M} {K : Int64 → mm_M → Prop} (hG : mm_G M.2.2) (h1 : okz x1.toInt) (hK : ∀ z : Int64, z.toInt = flz x1.toInt x2.toInt → K z M) : mm_CL mX12_qFloor d [.long x1, .long x2] M K := by
  unfold okz at h1
  refine rX12_qFloor hG ?_
  by_cases c : x2 = 0
  · rw [if_pos c]; exact hK _ (by rw [c]; simp [flz])
  · rw [if_neg c]
    refine ⟨c, c, ?_⟩
    have c0 : ¬ x2.toInt = 0 := fun q => c (i64_eq.mpr q)
    have t1 := td_le x1.toInt x2.toInt
    have t2 := tm_le x1.toInt x2.toInt
    have hq : (x1 / x2).toInt = x1.toInt.tdiv x2.toInt := by rw [Int64.toInt_div, bm64 (by omega) (by omega)]
    have hr : (x1 - x1 / x2 * x2).toInt = x1.toInt - x1.toInt.tdiv x2.toInt * x2.toInt := by
      rw [Int64.toInt_sub, Int64.toInt_mul, hq, bm64 (n := x1.toInt.tdiv x2.toInt * x2.toInt) (by omega) (by omega), bm64 (by omega) (by omega)]
    have h9 : ((x1 / x2) - 1).toInt = x1.toInt.tdiv x2.toInt - 1 := by
      rw [Int64.toInt_sub, hq]; show (_ - 1 : Int).bmod _ = _; rw [bm64 (by omega) (by omega)]
    by_cases hz : (x1 - x1 / x2 * x2) = 0
    · rw [if_pos hz]
      have hz' : x1.toInt - x1.toInt.tdiv x2.toInt * x2.toInt = 0 := by rw [← hr, hz]; rfl
      exact hK _ (by rw [hq, flz, if_neg c0, if_pos hz'])
    · rw [if_neg hz]
      have hz' : ¬ x1.toInt - x1.toInt.tdiv x2.toInt * x2.toInt = 0 := by rw [← hr]; exact fun q => hz (i64_eq.mpr q)
      have fin0 : ((x1.toInt < 0) = (x2.toInt < 0)) → K (x1 / x2) M := fun hs => hK _ (by rw [hq, flz, if_neg c0, if_neg hz', if_pos hs])
      have fin1 : ¬ ((x1.toInt < 0) = (x2.toInt < 0)) → K ((x1 / x2) - 1) M := fun hs => hK _ (by rw [h9, flz, if_neg c0, if_neg hz', if_neg hs])
      have n1 : ∀ x : Int64, 0 ≤ x ↔ ¬ x.toInt < 0 := fun x => by rw [i64_le]; show (0 : Int) ≤ _ ↔ _; omega
      by_cases ca : 0 ≤ x1
      · rw [if_pos ca]
        refine lX12_qFloor_32 hG ?_
        have ca' := (n1 x1).mp ca
        by_cases cb : 0 ≤ x2
        · rw [if_pos cb, if_pos rfl]; have cb' := (n1 x2).mp cb; exact fin0 (propext ⟨fun q => absurd q ca', fun q => absurd q cb'⟩)
        · rw [if_neg cb, if_neg (by decide)]; have cb' := mt (n1 x2).mpr cb; exact fin1 (fun q => ca' (q ▸ (Decidable.not_not.mp cb')))
      · rw [if_neg ca]
        refine lX12_qFloor_32 hG ?_
        have ca' := Decidable.not_not.mp (mt (n1 x1).mpr ca)
        by_cases cb : 0 ≤ x2
        · rw [if_pos cb, if_neg (by decide)]; have cb' := (n1 x2).mp cb; exact fin1 (fun q => cb' (q ▸ ca'))
        · rw [if_neg cb, if_pos rfl]; have cb' := Decidable.not_not.mp (mt (n1 x2).mpr cb); exact fin0 (propext ⟨fun _ => cb', fun _ => ca'⟩)
/-- the reference's numbers of words and operators, as the class's -/
def wordOf (p : Int) : Int := if p = 0 then 2 else if p = 1 then 3 else if p = 2 then 14 else if p = 3 then 13 else if p = 4 then 6 else if p = 5 then 15 else if p = 6 then 16 else 17
def opOf (c : Int) : Int := if c = 1 then -1 else if c = 2 then -2 else if c = 3 then -3 else if c = 4 then -4 else if c = 5 then -10 else if c = 6 then -11 else if c = 7 then -5 else if c = 8 then -6 else if c = 9 then -7 else if c = 10 then -8 else -9
def tau (c : Int) : Int := if 1000 ≤ c then c - 1000 else if 60 ≤ c then (if c = 60 then -13 else -14) else if 40 ≤ c then 10000 + wordOf (c - 40) else if c = 13 then 1 else if c = 12 then -12 else opOf c
set_option maxHeartbeats 4000000 in
/-- qJoins: the two on top become one -/
theorem m_joins {d n : Nat} {x1 : Int32} {M : mm_M} {p : Nat → Int64} {K : mm_M → Prop} (hG : mm_G M.2.2) (hn : n + 2 ≤ 1700) (hop : 1 ≤ x1.toInt ∧ x1.toInt ≤ 11) (ha : okz (p n).toInt) (hb : okz (p (n + 1)).toInt) (h01 : opOf x1.toInt = -8 ∨ opOf x1.toInt = -9 → ((p n).toInt = 0 ∨ (p n).toInt = 1) ∧ ((p (n + 1)).toInt = 0 ∨ (p (n + 1)).toInt = 1))
    (hK : ∀ z : Int64, z.toInt = jz (opOf x1.toInt) (p n).toInt (p (n + 1)).toInt → K (mm_pq M (vp_updL p n z) (nI (n + 1)))) : mm_CV mX12_qJoins (d + 1) [.ref 164, .int x1] (mm_pq M p (nI (n + 2))) K := by
  have lit : ∀ (k : Int32) (n : Int), k.toInt = n → (x1 = k ↔ x1.toInt = n) := fun k n hk => by rw [i32_eq, hk]
  have e1 : nI (n + 2) - 1 = nI (n + 1) := nI_pred (n + 1)
  have e2 : nI (n + 2) - 2 = nI n := pk_sub (a := n + 2) (b := 2) (by omega)
  refine rX12_qJoins (M := mm_pq M p (nI (n + 2))) hG ?_
  rw [pq_n, e1, e2, pq_p, nI_clamp (n := n) (by omega), nI_clamp (n := n + 1) (by omega), pq_uI]
  refine ⟨vp_in_nI (by omega) (by decide), vp_in_nI (by omega) (by decide), ?_⟩
  generalize hpa : p n = a at ha h01 hK ⊢
  generalize hpb : p (n + 1) = b at hb h01 hK ⊢
  have put : ∀ z : Int64, z.toInt = jz (opOf x1.toInt) a.toInt b.toInt → mm_CV mX12_qPuts d [.ref 164, .long z] (mm_pq M p (nI n)) (fun m => K m) := fun z hz => m_puts hG (by omega) (hK z hz)
  have j7 : ∀ a b : Int, jz (opOf 7) a b = if a < b then 1 else 0 := fun a b => by simp [opOf, jz]
  have j8 : ∀ a b : Int, jz (opOf 8) a b = if b < a then 1 else 0 := fun a b => by simp [opOf, jz]
  have j11 : ∀ a b : Int, jz (opOf 11) a b = if 0 < a + b then 1 else 0 := fun a b => by simp [opOf, jz]
  have hok := ha
  have hokb := hb
  unfold okz at ha hb
  by_cases g1 : x1 = 1
  · rw [if_pos g1]
    have e' := (lit 1 1 rfl).mp g1
    refine m_clip (M := mm_pq M p (nI n)) hG (fun z hz => put z ?_)
    rw [hz, e', Int64.toInt_add, bm64 (by omega) (by omega)]; simp [opOf, jz]
  rw [if_neg g1]
  by_cases g2 : x1 = 2
  · rw [if_pos g2]
    have e' := (lit 2 2 rfl).mp g2
    refine m_clip (M := mm_pq M p (nI n)) hG (fun z hz => put z ?_)
    rw [hz, e', Int64.toInt_sub, bm64 (by omega) (by omega)]; simp [opOf, jz]
  rw [if_neg g2]
  by_cases g3 : x1 = 3
  · rw [if_pos g3]
    have e' := (lit 3 3 rfl).mp g3
    have hm : -1000000000000 ≤ a.toInt * b.toInt ∧ a.toInt * b.toInt ≤ 1000000000000 := by
      have : (a.toInt * b.toInt).natAbs ≤ 1000000 * 1000000 := by rw [Int.natAbs_mul]; exact Nat.mul_le_mul (by omega) (by omega)
      omega
    refine m_clip (M := mm_pq M p (nI n)) hG (fun z hz => put z ?_)
    rw [hz, e', Int64.toInt_mul, bm64 (by omega) (by omega)]; simp [opOf, jz]
  rw [if_neg g3]
  by_cases g4 : x1 = 4
  · rw [if_pos g4]
    have e' := (lit 4 4 rfl).mp g4
    refine m_floor (M := mm_pq M p (nI n)) hG hok (fun z hz => put z ?_)
    rw [hz, e']; simp [opOf, jz]
  rw [if_neg g4]
  by_cases g5 : x1 = 5
  · rw [if_pos g5]
    have e' := (lit 5 5 rfl).mp g5
    by_cases c : b ≤ a
    · rw [if_pos c]; have c' := i64_le.mp c; exact put _ (by rw [e']; simp [opOf, jz]; omega)
    · rw [if_neg c]; have c' := mt i64_le.mpr c; exact put _ (by rw [e']; simp [opOf, jz]; omega)
  rw [if_neg g5]
  by_cases g6 : x1 = 6
  · rw [if_pos g6]
    have e' := (lit 6 6 rfl).mp g6
    by_cases c : a ≤ b
    · rw [if_pos c]; have c' := i64_le.mp c; exact put _ (by rw [e']; simp [opOf, jz]; omega)
    · rw [if_neg c]; have c' := mt i64_le.mpr c; exact put _ (by rw [e']; simp [opOf, jz]; omega)
  rw [if_neg g6]
  by_cases g7 : x1 = 7
  · rw [if_pos g7]
    have e' := (lit 7 7 rfl).mp g7
    by_cases c : b ≤ a
    · rw [if_pos c]; have c' := i64_le.mp c; exact put _ (by rw [e', j7, if_neg (by omega)]; rfl)
    · rw [if_neg c]; have c' := mt i64_le.mpr c; exact put _ (by rw [e', j7, if_pos (by omega)]; rfl)
  rw [if_neg g7]
  by_cases g8 : x1 = 8
  · rw [if_pos g8]
    have e' := (lit 8 8 rfl).mp g8
    by_cases c : a ≤ b
    · rw [if_pos c]; have c' := i64_le.mp c; exact put _ (by rw [e', j8, if_neg (by omega)]; rfl)
    · rw [if_neg c]; have c' := mt i64_le.mpr c; exact put _ (by rw [e', j8, if_pos (by omega)]; rfl)
  rw [if_neg g8]
  by_cases g9 : x1 = 9
  · rw [if_pos g9]
    have e' := (lit 9 9 rfl).mp g9
    by_cases c : a = b
    · rw [if_pos c]; exact put _ (by rw [e', c]; simp [opOf, jz])
    · rw [if_neg c]; have c' := mt i64_eq.mpr c; exact put _ (by rw [e']; simp [opOf, jz, c'])
  rw [if_neg g9]
  by_cases g10 : x1 = 10
  · rw [if_pos g10]
    have e' := (lit 10 10 rfl).mp g10
    rw [e'] at h01
    obtain ⟨q1, q2⟩ := h01 (Or.inl (by decide))
    refine put _ ?_
    rw [e', Int64.toInt_mul]
    rcases q1 with q1 | q1 <;> rcases q2 with q2 | q2 <;> rw [q1, q2] <;> decide
  rw [if_neg g10]
  have e' : x1.toInt = 11 := by
    have k1 := mt (lit 1 1 rfl).mpr g1
    have k2 := mt (lit 2 2 rfl).mpr g2
    have k3 := mt (lit 3 3 rfl).mpr g3
    have k4 := mt (lit 4 4 rfl).mpr g4
    have k5 := mt (lit 5 5 rfl).mpr g5
    have k6 := mt (lit 6 6 rfl).mpr g6
    have k7 := mt (lit 7 7 rfl).mpr g7
    have k8 := mt (lit 8 8 rfl).mpr g8
    have k9 := mt (lit 9 9 rfl).mpr g9
    have k10 := mt (lit 10 10 rfl).mpr g10
    omega
  have hs : (a + b).toInt = a.toInt + b.toInt := by rw [Int64.toInt_add, bm64 (by omega) (by omega)]
  by_cases c : a + b ≤ 0
  · rw [if_pos c]; have c' := i64_le.mp c; rw [hs] at c'; exact put _ (by rw [e', j11, if_neg (by have : (0 : Int64).toInt = 0 := rfl; omega)]; rfl)
  · rw [if_neg c]; have c' := mt i64_le.mpr c; rw [hs] at c'; exact put _ (by rw [e', j11, if_pos (by have : (0 : Int64).toInt = 0 := rfl; omega)]; rfl)
