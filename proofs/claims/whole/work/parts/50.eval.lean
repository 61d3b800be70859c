/-! numbers -/
theorem bm32 {n : Int} (h1 : -2147483648 ≤ n) (h2 : n < 2147483648) : n.bmod (2 ^ 32) = n := Int.bmod_eq_of_le (by omega) (by omega)
theorem bm64 {n : Int} (h1 : -9223372036854775808 ≤ n) (h2 : n < 9223372036854775808) : n.bmod (2 ^ 64) = n := Int.bmod_eq_of_le (by omega) (by omega)
theorem i32_eq {x y : Int32} : x = y ↔ x.toInt = y.toInt := Int32.toInt_inj.symm
theorem i64_eq {x y : Int64} : x = y ↔ x.toInt = y.toInt := Int64.toInt_inj.symm
theorem i32_lt {x y : Int32} : x < y ↔ x.toInt < y.toInt := Int32.lt_iff_toInt_lt
theorem i32_le {x y : Int32} : x ≤ y ↔ x.toInt ≤ y.toInt := Int32.le_iff_toInt_le
theorem i64_lt {x y : Int64} : x < y ↔ x.toInt < y.toInt := Int64.lt_iff_toInt_lt
theorem i64_le {x y : Int64} : x ≤ y ↔ x.toInt ≤ y.toInt := Int64.le_iff_toInt_le
theorem td_le (a b : Int) : -(a.natAbs : Int) ≤ a.tdiv b ∧ a.tdiv b ≤ a.natAbs := by
  have h : (a.tdiv b).natAbs ≤ a.natAbs := by rw [Int.natAbs_tdiv]; exact Nat.div_le_self _ _
  omega
theorem tm_le (a b : Int) : -(a.natAbs : Int) ≤ a.tdiv b * b ∧ a.tdiv b * b ≤ a.natAbs := by
  have h : (a.tdiv b * b).natAbs ≤ a.natAbs := by rw [Int.natAbs_mul, Int.natAbs_tdiv]; exact Nat.div_mul_le_self _ _
  omega
/-- within the limit of sums -/
def okz (a : Int) : Prop := -1000000 ≤ a ∧ a ≤ 1000000
def clz (a : Int) : Int := if a ≤ 1000000 then (if -1000000 ≤ a then a else -1000000) else 1000000
theorem clz_ok (a : Int) : okz (clz a) := by
  unfold clz okz
  by_cases h1 : a ≤ 1000000
  · by_cases h2 : -1000000 ≤ a
    · rw [if_pos h1, if_pos h2]; omega
    · rw [if_pos h1, if_neg h2]; omega
  · rw [if_neg h1]; omega
def flz (a b : Int) : Int := if b = 0 then 0 else if a - a.tdiv b * b = 0 then a.tdiv b else if (a < 0) = (b < 0) then a.tdiv b else a.tdiv b - 1
theorem flz_ok {a b : Int} (h : okz a) : okz (flz a b) := by
  have h1 := td_le a b
  have h2 := tm_le a b
  unfold okz at h
  unfold flz okz
  by_cases hb : b = 0
  · simp [hb]
  · rw [if_neg hb]
    by_cases hz : a - a.tdiv b * b = 0
    · rw [if_pos hz]; omega
    · rw [if_neg hz]
      by_cases hs : (a < 0) = (b < 0)
      · rw [if_pos hs]; omega
      · rw [if_neg hs]
        refine ⟨?_, by omega⟩
        by_cases h3 : a.tdiv b = -1000000
        · exfalso
          rw [h3] at h2 hz
          have hb1 : b = 1 ∨ b = -1 := by omega
          rcases hb1 with rfl | rfl
          · rw [Int.tdiv_one] at h3
            subst h3
            exact hz (by decide)
          · rw [Int.tdiv_neg, Int.tdiv_one] at h3
            have h4 : a = 1000000 := by omega
            subst h4
            exact hz (by decide)
        · omega
/-- two values joined: op by the class's numbers -/
def jz (op a b : Int) : Int :=
  if op = -1 then clz (a + b) else if op = -2 then clz (a - b) else if op = -3 then clz (a * b) else if op = -4 then flz a b else
  if op = -5 then (if a < b then 1 else 0) else if op = -6 then (if b < a then 1 else 0) else if op = -7 then (if a = b then 1 else 0) else
  if op = -8 then a * b else if op = -9 then (if 0 < a + b then 1 else 0) else if op = -10 then (if a < b then a else b) else (if b < a then a else b)
/-- Machine.joined -/
theorem c_joined {d : Nat} {x0 x1 x2 : Int32} {M : mm_M} {K : Int32 → mm_M → Prop} (hG : mm_G M.2.2) (h1 : okz x1.toInt) (h2 : okz x2.toInt) (hop : -11 ≤ x0.toInt ∧ x0.toInt ≤ -1) (hb : x0.toInt = -8 ∨ x0.toInt = -9 → (x1.toInt = 0 ∨ x1.toInt = 1) ∧ (x2.toInt = 0 ∨ x2.toInt = 1))
    (hK : ∀ z : Int32, z.toInt = jz x0.toInt x1.toInt x2.toInt → K z M) : mm_CI mX5_joined d [.int x0, .int x1, .int x2] M K := by
  have lit : ∀ (k : Int32) (n : Int), k.toInt = n → (x0 = k ↔ x0.toInt = n) := fun k n hk => by rw [i32_eq, hk]
  have clip : ∀ (y : Int64) (n : Int), y.toInt = n → (∀ z : Int32, z.toInt = clz n → K z M) → jX5_joined_191 d x0 x1 x2 M K y := by
    intro y n hy hk
    refine lX5_joined_191 hG ?_
    by_cases ha : y ≤ 1000000
    · rw [if_pos ha]
      have ha' : n ≤ 1000000 := by rw [← hy]; exact i64_le.mp ha
      by_cases hc : (-1000000) ≤ y
      · rw [if_pos hc]
        have hc' : -1000000 ≤ n := by rw [← hy]; exact i64_le.mp hc
        refine hk _ ?_
        rw [Int64.toInt_toInt32, hy, bm32 (by omega) (by omega), clz, if_pos ha', if_pos hc']
      · rw [if_neg hc]
        have hc' : ¬ -1000000 ≤ n := by rw [← hy]; exact fun q => hc (i64_le.mpr q)
        refine hk _ ?_
        rw [clz, if_pos ha', if_neg hc']; rfl
    · rw [if_neg ha]
      have ha' : ¬ n ≤ 1000000 := by rw [← hy]; exact fun q => ha (i64_le.mpr q)
      refine hk _ ?_
      rw [clz, if_neg ha']; rfl
  refine rX5_joined hG ?_
  unfold okz at h1 h2
  by_cases e : x0 = (-10)
  · rw [if_pos e]
    have e' : x0.toInt = -10 := (lit _ _ rfl).mp e
    rw [e'] at hK
    by_cases c : x2 ≤ x1
    · rw [if_pos c]; have c' := i32_le.mp c; exact hK _ (by simp only [jz]; simp; omega)
    · rw [if_neg c]; have c' := mt i32_le.mpr c; exact hK _ (by simp only [jz]; simp; omega)
  rw [if_neg e]
  by_cases e9 : x0 = (-9)
  · rw [if_pos e9]
    have e' : x0.toInt = -9 := (lit _ _ rfl).mp e9
    rw [e'] at hK hb
    obtain ⟨q1, q2⟩ := hb (Or.inr rfl)
    have z1 : x1 = 0 ∨ x1 = 1 := q1.imp (fun q => i32_eq.mpr q) (fun q => i32_eq.mpr q)
    have z2 : x2 = 0 ∨ x2 = 1 := q2.imp (fun q => i32_eq.mpr q) (fun q => i32_eq.mpr q)
    refine hK _ ?_
    rcases z1 with rfl | rfl <;> rcases z2 with rfl | rfl <;> decide
  rw [if_neg e9]
  by_cases e8 : x0 = (-8)
  · rw [if_pos e8]
    have e' : x0.toInt = -8 := (lit _ _ rfl).mp e8
    rw [e'] at hK hb
    obtain ⟨q1, q2⟩ := hb (Or.inl rfl)
    have z1 : x1 = 0 ∨ x1 = 1 := q1.imp (fun q => i32_eq.mpr q) (fun q => i32_eq.mpr q)
    have z2 : x2 = 0 ∨ x2 = 1 := q2.imp (fun q => i32_eq.mpr q) (fun q => i32_eq.mpr q)
    refine hK _ ?_
    rcases z1 with rfl | rfl <;> rcases z2 with rfl | rfl <;> decide
  rw [if_neg e8]
  by_cases e7 : x0 = (-7)
  · rw [if_pos e7]
    have e' : x0.toInt = -7 := (lit _ _ rfl).mp e7
    rw [e'] at hK
    by_cases c : x1 = x2
    · rw [if_pos c]; exact hK _ (by rw [c]; simp [jz])
    · rw [if_neg c]; have c' := mt i32_eq.mpr c; exact hK _ (by simp [jz, c'])
  rw [if_neg e7]
  by_cases e6 : x0 = (-6)
  · rw [if_pos e6]
    have e' : x0.toInt = -6 := (lit _ _ rfl).mp e6
    rw [e'] at hK
    by_cases c : x1 ≤ x2
    · rw [if_pos c]; have c' := i32_le.mp c; exact hK _ (by simp only [jz]; simp; omega)
    · rw [if_neg c]; have c' := mt i32_le.mpr c; exact hK _ (by simp only [jz]; simp; omega)
  rw [if_neg e6]
  by_cases e5 : x0 = (-5)
  · rw [if_pos e5]
    have e' : x0.toInt = -5 := (lit _ _ rfl).mp e5
    rw [e'] at hK
    by_cases c : x2 ≤ x1
    · rw [if_pos c]; have c' := i32_le.mp c; exact hK _ (by simp only [jz]; simp; omega)
    · rw [if_neg c]; have c' := mt i32_le.mpr c; exact hK _ (by simp only [jz]; simp; omega)
  rw [if_neg e5]
  by_cases e4 : x0 = (-4)
  · rw [if_pos e4]
    have e' : x0.toInt = -4 := (lit _ _ rfl).mp e4
    rw [e'] at hK
    have hj : jz (-4) x1.toInt x2.toInt = flz x1.toInt x2.toInt := by simp [jz]
    rw [hj] at hK
    by_cases c : x2 = 0
    · rw [if_pos c]; exact hK _ (by rw [c]; simp [flz])
    · rw [if_neg c]
      refine ⟨c, c, ?_⟩
      have c0 : ¬ x2.toInt = 0 := fun q => c (i32_eq.mpr q)
      have t1 := td_le x1.toInt x2.toInt
      have t2 := tm_le x1.toInt x2.toInt
      have hq : (x1 / x2).toInt = x1.toInt.tdiv x2.toInt := by rw [Int32.toInt_div, bm32 (by omega) (by omega)]
      have hr : (x1 - x1 / x2 * x2).toInt = x1.toInt - x1.toInt.tdiv x2.toInt * x2.toInt := by
        rw [Int32.toInt_sub, Int32.toInt_mul, hq, bm32 (n := x1.toInt.tdiv x2.toInt * x2.toInt) (by omega) (by omega), bm32 (by omega) (by omega)]
      have h0 : ((x1 / x2) - 0).toInt = x1.toInt.tdiv x2.toInt := by
        rw [Int32.toInt_sub, hq]; show (_ - 0 : Int).bmod _ = _; rw [Int.sub_zero, bm32 (by omega) (by omega)]
      have h9 : ((x1 / x2) - 1).toInt = x1.toInt.tdiv x2.toInt - 1 := by
        rw [Int32.toInt_sub, hq]; show (_ - 1 : Int).bmod _ = _; rw [bm32 (by omega) (by omega)]
      by_cases hz : (x1 - x1 / x2 * x2) = 0
      · rw [if_pos hz]
        have hz' : x1.toInt - x1.toInt.tdiv x2.toInt * x2.toInt = 0 := by rw [← hr, hz]; rfl
        exact hK _ (by rw [h0, flz, if_neg c0, if_pos hz'])
      · rw [if_neg hz]
        have hz' : ¬ x1.toInt - x1.toInt.tdiv x2.toInt * x2.toInt = 0 := by rw [← hr]; exact fun q => hz (i32_eq.mpr q)
        have fin0 : ((x1.toInt < 0) = (x2.toInt < 0)) → K ((x1 / x2) - 0) M := fun hs => hK _ (by rw [h0, flz, if_neg c0, if_neg hz', if_pos hs])
        have fin1 : ¬ ((x1.toInt < 0) = (x2.toInt < 0)) → K ((x1 / x2) - 1) M := fun hs => hK _ (by rw [h9, flz, if_neg c0, if_neg hz', if_neg hs])
        have n1 : ∀ x : Int32, 0 ≤ x ↔ ¬ x.toInt < 0 := fun x => by rw [i32_le]; show (0 : Int) ≤ _ ↔ _; omega
        by_cases ca : 0 ≤ x1
        · rw [if_pos ca]
          refine lX5_joined_109 hG ?_
          have ca' := (n1 x1).mp ca
          by_cases cb : 0 ≤ x2
          · rw [if_pos cb, if_pos rfl]; have cb' := (n1 x2).mp cb; exact fin0 (propext ⟨fun q => absurd q ca', fun q => absurd q cb'⟩)
          · rw [if_neg cb, if_neg (by decide)]; have cb' := mt (n1 x2).mpr cb; exact fin1 (fun q => ca' (q ▸ (Decidable.not_not.mp cb')))
        · rw [if_neg ca]
          refine lX5_joined_109 hG ?_
          have ca' := Decidable.not_not.mp (mt (n1 x1).mpr ca)
          by_cases cb : 0 ≤ x2
          · rw [if_pos cb, if_neg (by decide)]; have cb' := (n1 x2).mp cb; exact fin1 (fun q => cb' (q ▸ ca'))
          · rw [if_neg cb, if_pos rfl]; have cb' := Decidable.not_not.mp (mt (n1 x2).mpr cb); exact fin0 (propext ⟨fun _ => cb', fun _ => ca'⟩)
  rw [if_neg e4]
  by_cases e3 : x0 = (-3)
  · rw [if_pos e3]
    have e' : x0.toInt = -3 := (lit _ _ rfl).mp e3
    rw [e'] at hK
    have hj : jz (-3) x1.toInt x2.toInt = clz (x1.toInt * x2.toInt) := by simp [jz]
    rw [hj] at hK
    have hm : -1000000000000 ≤ x1.toInt * x2.toInt ∧ x1.toInt * x2.toInt ≤ 1000000000000 := by
      have : (x1.toInt * x2.toInt).natAbs ≤ 1000000 * 1000000 := by rw [Int.natAbs_mul]; exact Nat.mul_le_mul (by omega) (by omega)
      omega
    exact clip _ _ (by rw [Int64.toInt_mul, Int32.toInt_toInt64, Int32.toInt_toInt64, bm64 (by omega) (by omega)]) hK
  rw [if_neg e3]
  by_cases e2 : x0 = (-2)
  · rw [if_pos e2]
    have e' : x0.toInt = -2 := (lit _ _ rfl).mp e2
    rw [e'] at hK
    have hj : jz (-2) x1.toInt x2.toInt = clz (x1.toInt - x2.toInt) := by simp [jz]
    rw [hj] at hK
    exact clip _ _ (by rw [Int64.toInt_sub, Int32.toInt_toInt64, Int32.toInt_toInt64, bm64 (by omega) (by omega)]) hK
  rw [if_neg e2]
  by_cases e1 : x0 = (-1)
  · rw [if_pos e1]
    have e' : x0.toInt = -1 := (lit _ _ rfl).mp e1
    rw [e'] at hK
    have hj : jz (-1) x1.toInt x2.toInt = clz (x1.toInt + x2.toInt) := by simp [jz]
    rw [hj] at hK
    exact clip _ _ (by rw [Int64.toInt_add, Int32.toInt_toInt64, Int32.toInt_toInt64, bm64 (by omega) (by omega)]) hK
  rw [if_neg e1]
  have e' : x0.toInt = -11 := by
    have g10 := mt (lit (-10) (-10) rfl).mpr e
    have g9 := mt (lit (-9) (-9) rfl).mpr e9
    have g8 := mt (lit (-8) (-8) rfl).mpr e8
    have g7 := mt (lit (-7) (-7) rfl).mpr e7
    have g6 := mt (lit (-6) (-6) rfl).mpr e6
    have g5 := mt (lit (-5) (-5) rfl).mpr e5
    have g4 := mt (lit (-4) (-4) rfl).mpr e4
    have g3 := mt (lit (-3) (-3) rfl).mpr e3
    have g2 := mt (lit (-2) (-2) rfl).mpr e2
    have g1 := mt (lit (-1) (-1) rfl).mpr e1
    omega
  rw [e'] at hK
  by_cases c : x1 ≤ x2
  · rw [if_pos c]; have c' := i32_le.mp c; exact hK _ (by simp only [jz]; simp; omega)
  · rw [if_neg c]; have c' := mt i32_le.mpr c; exact hK _ (by simp only [jz]; simp; omega)
