/-! ===== the two sides between calls ===== -/
def cl (c j : Nat) : Prop := c < 164 ∧ ¬ (c = 5 ∧ j = 12)
def ml (c _j : Nat) : Prop := 164 ≤ c ∧ ¬ (167 ≤ c ∧ c ≤ 190) ∧ ¬ (217 ≤ c ∧ c ≤ 238)
/-- the words, as the class numbers them -/
def wds : List (List Int32) := [[108, 111, 97, 102], [104, 111, 117, 115, 101], [102, 108, 111, 117, 114], [115, 97, 108, 116], [102, 101, 117, 100], [119, 105, 116, 104], [104, 97, 116, 101], [98, 97, 107, 101, 115], [116, 97, 115, 116, 101, 115], [115, 116, 97, 114, 118, 101, 115], [99, 111, 111, 108, 115], [103, 114, 111, 119, 115], [102, 97, 109, 105, 110, 101], [100, 97, 121], [104, 117, 110, 103, 101, 114], [108, 111, 97, 118, 101, 115], [110, 117, 109, 98, 101, 114], [102, 101, 117, 100, 115], [111, 114], [97, 110, 100], [110, 111, 116], [97, 108, 108], [109, 105, 110], [109, 97, 120], [102, 105, 114, 115, 116], [108, 97, 115, 116], [111, 102, 116, 101, 110], [116, 111, 116, 97, 108], [109, 111, 115, 116], [108, 101, 97, 115, 116]]
/-- a row holds a word's letters -/
def wOf (M : mm_M) (c k : Nat) : Prop := ∀ (j : Nat) (x : Int32), (wds.getD k [])[j]? = some x → M.1 c j = x
def wq : List Nat := [24, 25, 26, 27, 28, 29, 20, 19, 18, 21, 22, 23, 2, 3, 14, 13, 6, 15, 16, 17, 6, 8]
/-- the reference's words -/
def mWd (M : mm_M) : Prop := (∀ i, i < 24 → wOf M (167 + i) i) ∧ ∀ i, i < 22 → wOf M (217 + i) (wq.getD i 0)
theorem mWd_off {W : Nat → Nat → Prop} {M m : mm_M} (h : mWd M) (o : offA W M m) (hW : ∀ c j, W c j → ¬ (167 ≤ c ∧ c ≤ 190) ∧ ¬ (217 ≤ c ∧ c ≤ 238)) : mWd m :=
  ⟨fun i hi j x hx => by rw [o.1 _ _ (fun z => by have := hW _ _ z; omega)]; exact h.1 i hi j x hx, fun i hi j x hx => by rw [o.1 _ _ (fun z => by have := hW _ _ z; omega)]; exact h.2 i hi j x hx⟩
def CC (u : Nat) (a : dA) (M : mm_M) : Prop := cIO a.1 M ∧ cRU a.2.1 M ∧ cST (700 * u) a.2.2.1 M ∧ cSE a.2.2.2.1 M ∧ M.1 0 18 = nI a.2.2.2.2 ∧ cC a.2.2.2.2 a.2.1.2.1 a.2.2.1.1 a.2.2.2.1 M
def MM (a : dA) (M : mm_M) : Prop := mIO a.1 M ∧ mRU a.2.1 M ∧ mST a.2.2.1 M ∧ mSE a.2.2.2.1 M ∧ mID M
def VV (u : Nat) (a : dA) : Prop := vIO a.1 ∧ vRU a.2.1 ∧ vST a.2.1.2.1 a.2.2.1 ∧ vSE a.2.1.2.1.2.1 a.2.2.2.1 ∧ a.2.2.2.2 ≤ u
def Inv (u : Nat) (M : mm_M) : Prop := (∃ a, VV u a ∧ CC u a M ∧ MM a M) ∧ M.1 5 12 = 0 ∧ mWd M
theorem cST_le {B B' : Nat} {a : dST} {M : mm_M} (h : cST B a M) (hB : B ≤ B') : cST B' a M := by
  obtain ⟨h1, h2, h3, h4, p, h5, h6, h7⟩ := h
  exact ⟨h1, cK_le h2 hB, h3, h4, p, h5, h6, fun k s hs => ⟨(h7 k s hs).1, cK_le (h7 k s hs).2 hB⟩⟩
theorem CC_up {u : Nat} {a : dA} {M : mm_M} (h : CC u a M) : CC (u + 1) a M := ⟨h.1, h.2.1, cST_le h.2.2.1 (by omega), h.2.2.2⟩
theorem VV_up {u : Nat} {a : dA} (h : VV u a) : VV (u + 1) a := ⟨h.1, h.2.1, h.2.2.1, h.2.2.2.1, by have := h.2.2.2.2; omega⟩
theorem CC_off {W : Nat → Nat → Prop} {u : Nat} {a : dA} {M m : mm_M} (h : CC u a M) (ho : offA W M m) (hW : ∀ c j, W c j → 164 ≤ c) : CC u a m := by
  obtain ⟨h1, h2, h3, h4, h5, h6⟩ := h
  have hr := Rl_at h2.2.2.2.1
  refine ⟨cIO_off h1 ho (fun c j q z => ?_), cRU_off h2 ho (fun c j q z => ?_), cST_off h3 ho (fun c j q z => ?_), cSE_off h4 ho (fun c j q z => ?_), ?_, cC_off h6 ho (fun c j q z => ?_)⟩
  · have := hW c j q; omega
  · have := hW c j q; omega
  · have := hW c j q; omega
  · have := hW c j q; omega
  · rw [ho.1 _ _ (fun q => by have := hW _ _ q; omega)]; exact h5
  · have := hW c j q; omega
theorem MM_off {W : Nat → Nat → Prop} {a : dA} {M m : mm_M} (h : MM a M) (ho : offA W M m) (hW : ∀ c j, W c j → c < 164) : MM a m := by
  obtain ⟨h1, h2, h3, h4, h5⟩ := h
  refine ⟨mIO_off h1 ho (fun c j q z => ?_), mRU_off h2 ho (fun c j q z => ?_), mST_off h3 ho (fun c j q z => ?_), mSE_off h4 ho (fun c j q z => ?_), mID_off h5 ho (fun c j q z => ?_)⟩
  · have := hW c j q; omega
  · have := hW c j q; omega
  · have := hW c j q; omega
  · have := hW c j q; omega
  · have := hW c j q; omega
/-- what the class's side answers and leaves; likewise the reference's -/
def cQ (u : Nat) (a' : dA) (z : Int32) (M : mm_M) (x : Int32) (m : mm_M) : Prop := x = z ∧ offA cl M m ∧ CC (u + 1) a' m
def mQ (a' : dA) (z : Int32) (M : mm_M) (x : Int32) (m : mm_M) : Prop := x = z ∧ offA ml M m ∧ MM a' m
def cQL (u : Nat) (a' : dA) (z : Int64) (M : mm_M) (x : Int64) (m : mm_M) : Prop := x = z ∧ offA cl M m ∧ CC (u + 1) a' m
def mQL (a' : dA) (z : Int64) (M : mm_M) (x : Int64) (m : mm_M) : Prop := x = z ∧ offA ml M m ∧ MM a' m
theorem stepI5 {yc ym : mm_Y} {vc vm : List Value} {u : Nat} {M : mm_M} (hI : Inv u M)
    (h : ∀ a, VV u a → CC u a M → MM a M → M.1 5 12 = 0 → ∃ (z : Int32) (a' : dA), VV (u + 1) a' ∧ mm_CI yc 900 vc M (cQ u a' z M) ∧ ∀ m, mm_G m.2.2 → MM a m → mWd m → mm_CI ym 900 vm m (mQ a' z m)) :
    mm_CI yc 900 vc M (fun z1 m1 => mm_CI ym 900 vm m1 (fun z2 m2 => z1 = z2 ∧ Inv (u + 1) m2)) := by
  obtain ⟨⟨a, h1, h2, h3⟩, h5, h6⟩ := hI
  obtain ⟨z, a', v', hc, hm⟩ := h a h1 h2 h3 h5
  refine mm_CI_mono hc (fun x m hG ⟨e, o, c⟩ => ?_)
  refine mm_CI_mono (hm m hG (MM_off h3 o (fun c j q => q.1)) (mWd_off h6 o (fun c j q => by unfold cl at q; omega))) (fun x2 m2 _ ⟨e2, o2, c2⟩ => ?_)
  exact ⟨e.trans e2.symm, ⟨a', v', CC_off c o2 (fun c j q => q.1), c2⟩, by rw [o2.1 _ _ (by unfold ml; omega), o.1 _ _ (by unfold cl; omega)]; exact h5, mWd_off (mWd_off h6 o (fun c j q => by unfold cl at q; omega)) o2 (fun c j q => by unfold ml at q; omega)⟩
theorem stepI {yc ym : mm_Y} {vc vm : List Value} {u : Nat} {M : mm_M} (hI : Inv u M)
    (h : ∀ a, VV u a → CC u a M → MM a M → ∃ (z : Int32) (a' : dA), VV (u + 1) a' ∧ mm_CI yc 900 vc M (cQ u a' z M) ∧ ∀ m, mm_G m.2.2 → MM a m → mm_CI ym 900 vm m (mQ a' z m)) :
    mm_CI yc 900 vc M (fun z1 m1 => mm_CI ym 900 vm m1 (fun z2 m2 => z1 = z2 ∧ Inv (u + 1) m2)) := stepI5 hI (fun a h1 h2 h3 _ => by
  obtain ⟨z, a', q1, q2, q3⟩ := h a h1 h2 h3
  exact ⟨z, a', q1, q2, fun m hG hM _ => q3 m hG hM⟩)
theorem stepL5 {yc ym : mm_Y} {vc vm : List Value} {u : Nat} {M : mm_M} (hI : Inv u M)
    (h : ∀ a, VV u a → CC u a M → MM a M → M.1 5 12 = 0 → ∃ (z : Int64) (a' : dA), VV (u + 1) a' ∧ mm_CL yc 900 vc M (cQL u a' z M) ∧ ∀ m, mm_G m.2.2 → MM a m → mWd m → mm_CL ym 900 vm m (mQL a' z m)) :
    mm_CL yc 900 vc M (fun z1 m1 => mm_CL ym 900 vm m1 (fun z2 m2 => z1 = z2 ∧ Inv (u + 1) m2)) := by
  obtain ⟨⟨a, h1, h2, h3⟩, h5, h6⟩ := hI
  obtain ⟨z, a', v', hc, hm⟩ := h a h1 h2 h3 h5
  refine mm_CL_mono hc (fun x m hG ⟨e, o, c⟩ => ?_)
  refine mm_CL_mono (hm m hG (MM_off h3 o (fun c j q => q.1)) (mWd_off h6 o (fun c j q => by unfold cl at q; omega))) (fun x2 m2 _ ⟨e2, o2, c2⟩ => ?_)
  exact ⟨e.trans e2.symm, ⟨a', v', CC_off c o2 (fun c j q => q.1), c2⟩, by rw [o2.1 _ _ (by unfold ml; omega), o.1 _ _ (by unfold cl; omega)]; exact h5, mWd_off (mWd_off h6 o (fun c j q => by unfold cl at q; omega)) o2 (fun c j q => by unfold ml at q; omega)⟩
theorem stepL {yc ym : mm_Y} {vc vm : List Value} {u : Nat} {M : mm_M} (hI : Inv u M)
    (h : ∀ a, VV u a → CC u a M → MM a M → ∃ (z : Int64) (a' : dA), VV (u + 1) a' ∧ mm_CL yc 900 vc M (cQL u a' z M) ∧ ∀ m, mm_G m.2.2 → MM a m → mm_CL ym 900 vm m (mQL a' z m)) :
    mm_CL yc 900 vc M (fun z1 m1 => mm_CL ym 900 vm m1 (fun z2 m2 => z1 = z2 ∧ Inv (u + 1) m2)) := stepL5 hI (fun a h1 h2 h3 _ => by
  obtain ⟨z, a', q1, q2, q3⟩ := h a h1 h2 h3
  exact ⟨z, a', q1, q2, fun m hG hM _ => q3 m hG hM⟩)
/-- nothing changed -/
theorem cQ_same {u : Nat} {a : dA} {z : Int32} {M : mm_M} (h : CC u a M) : cQ u a z M z M := ⟨rfl, offA_rf, CC_up h⟩
theorem mQ_same {a : dA} {z : Int32} {M : mm_M} (h : MM a M) : mQ a z M z M := ⟨rfl, offA_rf, h⟩
/-! is it a house, are they two -/
def isH (hs : Nat) (x : Int32) : Prop := 0 ≤ x.toInt ∧ x.toInt < hs
theorem isH_nI {hs : Nat} {x : Int32} (h : isH hs x) (h7 : hs ≤ 7) : ∃ k, k < hs ∧ k < 7 ∧ x = nI k := by
  refine ⟨x.toInt.toNat, ?_, ?_, i32_nI h.1⟩
  · have := h.2; have := h.1; omega
  · have := h.2; have := h.1; omega
theorem c_isHouse {d : Nat} {x : Int32} {a : dRU} {M : mm_M} {K : Int32 → mm_M → Prop} (hG : mm_G M.2.2) (hR : cRU a M) (h7 : a.2.1.2.1 ≤ 7) (h1 : isH a.2.1.2.1 x → K 1 M) (h0 : ¬ isH a.2.1.2.1 x → K 0 M) : mm_CI mX11_isHouse d [.ref 0, .int x] M K := by
  refine rX11_isHouse hG ?_
  have z0 : (0 : Int32).toInt = 0 := rfl
  by_cases c : x < 0
  · exact ipos c (h0 (fun q => by have := i32_lt.mp c; have := q.1; omega))
  · refine ineg c ⟨_, hR.1, hR.2.2.2.1, ?_⟩
    rw [hR.2.2.2.2.2.2.1]
    have c' := mt i32_lt.mpr c
    have e := nI_toInt (n := a.2.1.2.1) (by omega)
    by_cases c2 : nI a.2.1.2.1 ≤ x
    · exact ipos c2 (h0 (fun q => by have := i32_le.mp c2; have := q.2; omega))
    · exact ineg c2 (h1 ⟨by omega, by have := mt i32_le.mpr c2; omega⟩)
theorem c_arePair {d : Nat} {x y : Int32} {a : dRU} {M : mm_M} {K : Int32 → mm_M → Prop} (hG : mm_G M.2.2) (hR : cRU a M) (h7 : a.2.1.2.1 ≤ 7) (h1 : isH a.2.1.2.1 x → isH a.2.1.2.1 y → x ≠ y → K 1 M) (h0 : ¬ (isH a.2.1.2.1 x ∧ isH a.2.1.2.1 y ∧ x ≠ y) → K 0 M) : mm_CI mX11_arePair (d + 1) [.ref 0, .int x, .int y] M K := by
  refine rX11_arePair hG (c_isHouse hG hR h7 (fun q1 => ineg (by decide) (c_isHouse hG hR h7 (fun q2 => ineg (by decide) ?_) (fun q2 => ipos rfl (h0 (fun z => q2 z.2.1))))) (fun q1 => ipos rfl (h0 (fun z => q1 z.1))))
  by_cases c : x = y
  · exact ipos c (h0 (fun z => z.2.2 c))
  · exact ineg c (h1 q1 q2 c)
theorem i64_of (x : Int32) : x.toInt64.toInt = x.toInt := Int32.toInt_toInt64 x
theorem m_isIn {d : Nat} {x p q : Int64} {M : mm_M} {K : Int32 → mm_M → Prop} (hG : mm_G M.2.2) (h1 : p.toInt ≤ x.toInt ∧ x.toInt ≤ q.toInt → K 1 M) (h0 : ¬ (p.toInt ≤ x.toInt ∧ x.toInt ≤ q.toInt) → K 0 M) : mm_CI mX12_isIn d [.long x, .long p, .long q] M K := by
  refine rX12_isIn hG ?_
  by_cases c : x < p
  · exact ipos c (h0 (fun z => by have := i64_lt.mp c; omega))
  · refine ineg c ?_
    have c' := mt i64_lt.mpr c
    by_cases c2 : q < x
    · exact ipos c2 (h0 (fun z => by have := i64_lt.mp c2; omega))
    · have c2' := mt i64_lt.mpr c2
      exact ineg c2 (h1 (by omega))
theorem m_isHouse {d : Nat} {x : Int64} {U : dU} {M : mm_M} {K : Int32 → mm_M → Prop} (hG : mm_G M.2.2) (hU : mU U M) (h7 : U.2.1 ≤ 7) (h1 : 0 ≤ x.toInt ∧ x.toInt < U.2.1 → K 1 M) (h0 : ¬ (0 ≤ x.toInt ∧ x.toInt < U.2.1) → K 0 M) : mm_CI mX12_isHouse (d + 1) [.ref 164, .long x] M K := by
  refine rX12_isHouse hG (m_houseMany hG ?_)
  rw [hU.2.1]
  have e : (nI U.2.1 - 1).toInt64.toInt = (U.2.1 : Int) - 1 := by
    rw [i64_of, Int32.toInt_sub, nI_toInt (by omega)]
    show ((U.2.1 : Int) - 1).bmod _ = _
    rw [bm32 (by omega) (by omega)]
  have z0 : (0 : Int64).toInt = 0 := rfl
  refine m_isIn hG (fun q => ⟨Or.inr rfl, h1 ?_⟩) (fun q => ⟨Or.inl rfl, h0 ?_⟩)
  · rw [e, z0] at q; omega
  · rw [e, z0] at q; omega
theorem m_isHouseI {d : Nat} {x : Int32} {U : dU} {M : mm_M} {K : Int32 → mm_M → Prop} (hG : mm_G M.2.2) (hU : mU U M) (h7 : U.2.1 ≤ 7) (h1 : isH U.2.1 x → K 1 M) (h0 : ¬ isH U.2.1 x → K 0 M) : mm_CI mX12_isHouse (d + 1) [.ref 164, .long x.toInt64] M K := by
  refine m_isHouse hG hU h7 (fun q => h1 ?_) (fun q => h0 ?_)
  · rw [i64_of] at q; exact q
  · rw [i64_of] at q; exact q
theorem m_areTwo {d : Nat} {x y : Int32} {U : dU} {M : mm_M} {K : Int32 → mm_M → Prop} (hG : mm_G M.2.2) (hU : mU U M) (h7 : U.2.1 ≤ 7) (h1 : isH U.2.1 x → isH U.2.1 y → x ≠ y → K 1 M) (h0 : ¬ (isH U.2.1 x ∧ isH U.2.1 y ∧ x ≠ y) → K 0 M) : mm_CI mX12_areTwo (d + 2) [.ref 164, .int x, .int y] M K := by
  refine rX12_areTwo hG (m_isHouseI hG hU h7 (fun q1 => ineg (by decide) (m_isHouseI hG hU h7 (fun q2 => ineg (by decide) ?_) (fun q2 => ipos rfl (h0 (fun z => q2 z.2.1))))) (fun q1 => ipos rfl (h0 (fun z => q1 z.1))))
  by_cases c : x = y
  · exact ipos c (h0 (fun z => z.2.2 c))
  · exact ineg c (h1 q1 q2 c)
theorem m_isAhead {d lo hi : Nat} {x : Int32} {a : dRU} {N : dN} {M : mm_M} {K : Int32 → mm_M → Prop} (hG : mm_G M.2.2) (hR : mRU a M) (hN : mN N M) (hd : inI 0 999 N.1) (hhi : hi ≤ 1000) (hlo : lo ≤ hi) (h1 : ∀ n : Nat, a.1 = true → x = nI n → lo ≤ n → n ≤ hi → N.1.toInt + n ≤ 999 → K 1 M) (h0 : ¬ (a.1 = true ∧ (lo : Int) ≤ x.toInt ∧ x.toInt ≤ hi ∧ N.1.toInt + x.toInt ≤ 999) → K 0 M) : mm_CI mX12_isAhead (d + 1) [.ref 164, .int x, .int (nI lo), .int (nI hi)] M K := by
  refine rX12_isAhead hG ?_
  rw [hR.1]
  by_cases c : a.1 = true
  · rw [if_pos c]
    refine ineg (by decide) ?_
    refine m_isIn hG (fun q => ineg (by decide) ?_) (fun q => ipos rfl (h0 (fun z => ?_)))
    · rw [i64_of, i64_of, i64_of, nI_toInt (by omega), nI_toInt (by omega)] at q
      have t0 : (0 : Int32).toNatClampNeg = 0 := rfl
      rw [t0, hN.1]
      have hs : (N.1 + x).toInt = N.1.toInt + x.toInt := by
        unfold inI at hd
        rw [Int32.toInt_add, bm32 (by omega) (by omega)]
      have e9 : (999 : Int32).toInt = 999 := rfl
      by_cases c2 : 999 < N.1 + x
      · exact ipos c2 (h0 (fun z => by have := i32_lt.mp c2; omega))
      · have c2' := mt i32_lt.mpr c2
        exact ineg c2 (h1 x.toInt.toNat c (i32_nI (by omega)) (by omega) (by omega) (by omega))
    · rw [i64_of, i64_of, i64_of, nI_toInt (by omega), nI_toInt (by omega)] at q
      omega
  · rw [if_neg c]
    exact ipos rfl (h0 (fun z => c z.1))
theorem c_hasDuchy {d : Nat} {a : dRU} {M : mm_M} {K : Int32 → mm_M → Prop} (hG : mm_G M.2.2) (hR : cRU a M) (h1 : a.1 = true → K 1 M) (h0 : ¬ a.1 = true → K 0 M) : mm_CI mX11_hasDuchy d [.ref 0] M K := by
  obtain ⟨r1, r2, r3, r4, ⟨s, s1, s2, s3⟩, -⟩ := hR
  refine rX11_hasDuchy hG ⟨_, r1, r4, ?_⟩
  rw [s2]
  by_cases c : 0 < s
  · exact ineg (nI_nle c (by omega)) (h1 (s3.mp c))
  · refine ipos ?_ (h0 (fun q => c (s3.mpr q)))
    obtain rfl : s = 0 := by omega
    decide
