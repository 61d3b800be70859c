/-! ===== the reference's table ===== -/
theorem bitX {x k : Nat} (hx : x < 2 ^ 31) (hk : k < 31) : (((nI x >>> (nI k &&& 31)) &&& 1) = 1 ↔ x.testBit k = true) ∧ (((nI x >>> (nI k &&& 31)) &&& 1) = 0 ↔ x.testBit k = false) := by
  have hs : (nI k &&& 31) = nI k := by
    rw [pk_andN (n := k) (by omega) (m := 31) 5 (by decide), Nat.mod_eq_of_lt (by omega)]
  have e1 : nI x >>> nI k = nI (x / 2 ^ k) := pk_shrN hx (nI k) k (by
    have : ∀ k, k < 31 → ((nI k).toBitVec.smod 32).toNat = k := by decide +kernel
    exact this k hk)
  have hlt : x / 2 ^ k < 2 ^ 32 := Nat.lt_of_le_of_lt (Nat.div_le_self _ _) (by omega)
  rw [hs, e1, pk_andN hlt (m := 1) 1 (by decide)]
  have h2 : x / 2 ^ k % 2 ^ 1 = 0 ∨ x / 2 ^ k % 2 ^ 1 = 1 := by
    have : x / 2 ^ k % 2 ^ 1 < 2 := Nat.mod_lt _ (by decide)
    omega
  have ht : x.testBit k = decide (x / 2 ^ k % 2 = 1) := Nat.testBit_eq_decide_div_mod_eq
  rw [ht]
  rcases h2 with h | h
  · rw [h]
    decide
  · rw [h]
    decide
/-- whose bread can be taken by whom, with feuds more -/
def svX (U : dU) (N : dN) (x e b : Nat) : Bool := N.2.1.testBit e && N.2.1.testBit b && decide (U.1 ≤ N.2.2.1 b) && decide (e ≠ b) && (decide (0 < N.2.2.2.2 e b) || x.testBit (pr b e))
theorem svX_0 {U : dU} {N : dN} (vn : vN U N) : svX U N 0 = svN U N := by
  funext e b
  unfold svX svN
  by_cases c : 0 < N.2.2.2.2 e b
  · have h := vn.2.2.2.2.2.2.2 e b c
    have hne : e ≠ b := fun q => by rw [q, vn.2.2.2.2.2.2.1 b] at c; exact absurd c (by decide)
    simp [c, h.1, h.2, hne]
  · simp [c]
theorem svX_lt {U : dU} {N : dN} {x e b : Nat} (vn : vN U N) (h : svX U N x e b = true) : e < U.2.1 ∧ b < U.2.1 ∧ e ≠ b := by
  unfold svX at h
  simp only [Bool.and_eq_true, decide_eq_true_eq] at h
  exact ⟨bit_lt vn h.1.1.1.1, bit_lt vn h.1.1.1.2, h.1.2⟩
def mTab (sv : Nat → Nat → Bool) (hc : Nat → Nat → Nat) (i : Nat) (m : mm_M) : Prop := ∀ e busy, i ≤ e → e ≤ 7 → busy < 128 → m.1 205 (128 * e + busy) = nI (tb sv hc (7 - e) busy).1 ∧ m.1 206 (128 * e + busy) = nI (tb sv hc (7 - e) busy).2
theorem ix128 (a b : Nat) : 128 * nI a + nI b = nI (128 * a + b) := by
  have : 128 * nI a = nI (128 * a) := pk_mul 128 a
  rw [this, nI_add]
theorem m_canServe {d e b x : Nat} {U : dU} {N : dN} {M : mm_M} {K : Int32 → mm_M → Prop} (hG : mm_G M.2.2) (hU : mU U M) (hN : mN N M) (vn : vN U N) (he : e < 7) (hb : b < 7) (hx : x < 2 ^ 21) (h66 : M.1 164 66 = nI x) (ht : N.2.1.testBit e = true) (hK : K (if svX U N x e b then 1 else 0) M) : mm_CI mX12_canServe (d + 3) [.ref 164, .int (nI b), .int (nI e)] M K := by
  refine rX12_canServe hG ?_
  unfold svX at hK
  rw [ht] at hK
  by_cases c0 : b = e
  · subst c0
    refine ipos rfl ?_
    simpa using hK
  · refine ineg (fun q => c0 ((nI_eq (by omega) (by omega)).mp q)) (m_isThere hG hN hb ?_)
    have c0' : e ≠ b := fun q => c0 q.symm
    by_cases c1 : N.2.1.testBit b = true
    · rw [if_pos c1]
      refine ineg (by decide) (m_flourOf hG hN hb ?_)
      have t2 : (2 : Int32).toNatClampNeg = 2 := rfl
      rw [t2, hU.1]
      by_cases c2 : U.1 ≤ N.2.2.1 b
      · refine ipos c2 (m_areEnemies (U := U) hG hN vn hb he ?_)
        rw [vn.2.2.2.2.2.1 b e]
        by_cases c3 : 0 < N.2.2.2.2 e b
        · rw [if_pos c3]
          refine ineg (by decide) ?_
          simpa [c1, c2, c0', c3] using hK
        · rw [if_neg c3]
          have hp := pr_lt b hb e he c0
          refine ipos rfl (m_pairOf hG hb he c0 ?_)
          rw [h66]
          have hbx := (bitX (x := x) (k := pr b e) (by omega) (by omega)).1
          by_cases c4 : ((nI x >>> (nI (pr b e) &&& 31)) &&& 1) = 1
          · refine ipos c4 ?_
            have := hbx.mp c4
            simpa [c1, c2, c0', c3, this] using hK
          · refine ineg c4 ?_
            have := mt hbx.mpr c4
            simpa [c1, c2, c0', c3, this] using hK
      · refine ineg c2 ?_
        simpa [c2] using hK
    · rw [if_neg c1]
      refine ipos rfl ?_
      simpa [c1] using hK
theorem m_manyNone {d e busy : Nat} {sv : Nat → Nat → Bool} {hc : Nat → Nat → Nat} {M : mm_M} {K : Int32 → mm_M → Prop} (hG : mm_G M.2.2) (he : e < 7) (hb : busy < 128) (hT : mTab sv hc (e + 1) M) (hK : K (nI (tb sv hc (6 - e) busy).1) M) : mm_CI mX12_manyBy (d + 1) [.ref 164, .int (nI e), .int (nI busy), .int (-1)] M K := by
  refine rX12_manyBy hG (ipos rfl ?_)
  rw [nI_1, ix128, nI_clamp (by omega), (hT (e + 1) busy (Nat.le_refl _) (by omega) hb).1, show 7 - (e + 1) = 6 - e by omega]
  exact ⟨vp_in_nI (by omega) (by decide), hK⟩
theorem m_hateNone {d e busy : Nat} {sv : Nat → Nat → Bool} {hc : Nat → Nat → Nat} {M : mm_M} {K : Int32 → mm_M → Prop} (hG : mm_G M.2.2) (he : e < 7) (hb : busy < 128) (hT : mTab sv hc (e + 1) M) (hK : K (nI (tb sv hc (6 - e) busy).2) M) : mm_CI mX12_hateBy (d + 1) [.ref 164, .int (nI e), .int (nI busy), .int (-1)] M K := by
  refine rX12_hateBy hG (ipos rfl ?_)
  rw [nI_1, ix128, nI_clamp (by omega), (hT (e + 1) busy (Nat.le_refl _) (by omega) hb).2, show 7 - (e + 1) = 6 - e by omega]
  exact ⟨vp_in_nI (by omega) (by decide), hK⟩
theorem nI_nm1 {b : Nat} (hb : b < 2 ^ 31) : ¬ nI b = -1 := fun q => nI_pos (n := b) hb (by rw [q]; decide)
theorem bit_at1 : ∀ b, b < 128 → ∀ h, h < 7 → ((((nI b >>> (nI h &&& 31)) &&& 1) = 1) ↔ b.testBit h = true) := by decide +kernel
theorem m_manyBy {d e b busy x : Nat} {U : dU} {N : dN} {M : mm_M} {K : Int32 → mm_M → Prop} (hG : mm_G M.2.2) (hU : mU U M) (hN : mN N M) (vn : vN U N) (he : e < 7) (hb7 : b < 7) (hb : busy < 128) (hx : x < 2 ^ 21) (h66 : M.1 164 66 = nI x) (hT : mTab (svX U N x) (hcN N) (e + 1) M) (hK : K (if svX U N x e b && !(busy.testBit b) then nI (tbC (hcN N) e busy (tb (svX U N x) (hcN N) (6 - e)) b).1 else -1) M) : mm_CI mX12_manyBy (d + 4) [.ref 164, .int (nI e), .int (nI busy), .int (nI b)] M K := by
  refine rX12_manyBy hG (ineg (nI_nm1 (by omega)) (m_isThere hG hN he ?_))
  by_cases ct : N.2.1.testBit e = true
  · rw [if_pos ct]
    refine ineg (by decide) ?_
    have hbt := bit_at1 busy hb b hb7
    by_cases c1 : ((nI busy >>> (nI b &&& 31)) &&& 1) = 1
    · refine ipos c1 ?_
      rw [hbt.mp c1] at hK
      simpa using hK
    · refine ineg c1 (m_canServe hG hU hN vn he hb7 hx h66 ct ?_)
      have c1' : busy.testBit b = false := by simpa using mt hbt.mpr c1
      rw [c1'] at hK
      by_cases c2 : svX U N x e b = true
      · rw [if_pos c2]
        refine ineg (by decide) ?_
        rw [c2] at hK
        obtain ⟨o1, o2⟩ := bit_or busy hb b hb7
        rw [nI_1, o1, ix128, nI_clamp (by omega), (hT (e + 1) _ (Nat.le_refl _) (by omega) o2).1, show 7 - (e + 1) = 6 - e by omega]
        refine ⟨vp_in_nI (by omega) (by decide), ?_⟩
        have : 1 + nI (tb (svX U N x) (hcN N) (6 - e) (busy ||| 2 ^ b)).1 = nI (tbC (hcN N) e busy (tb (svX U N x) (hcN N) (6 - e)) b).1 := nI_add 1 _
        rw [this]
        exact hK
      · rw [if_neg c2]
        refine ipos rfl ?_
        have c2' : svX U N x e b = false := by simpa using c2
        rw [c2'] at hK
        exact hK
  · rw [if_neg ct]
    refine ipos rfl ?_
    have : svX U N x e b = false := by unfold svX; simp [ct]
    rw [this] at hK
    exact hK
theorem m_hateBy {d e b busy : Nat} {sv : Nat → Nat → Bool} {U : dU} {N : dN} {M : mm_M} {K : Int32 → mm_M → Prop} (hG : mm_G M.2.2) (hN : mN N M) (vn : vN U N) (he : e < 7) (hb7 : b < 7) (hb : busy < 128) (hne : e ≠ b) (hT : mTab sv (hcN N) (e + 1) M) (hK : K (nI (tbC (hcN N) e busy (tb sv (hcN N) (6 - e)) b).2) M) : mm_CI mX12_hateBy (d + 2) [.ref 164, .int (nI e), .int (nI busy), .int (nI b)] M K := by
  refine rX12_hateBy hG (ineg (nI_nm1 (by omega)) (m_hateOf hG hN hb7 he (fun q => hne q.symm) ?_))
  obtain ⟨o1, o2⟩ := bit_or busy hb b hb7
  rw [nI_1, o1, ix128, nI_clamp (by omega), (hT (e + 1) _ (Nat.le_refl _) (by omega) o2).2, show 7 - (e + 1) = 6 - e by omega, vn.2.2.2.2.2.1 b e, hcN_nI vn e b, nI_add]
  exact ⟨vp_in_nI (by omega) (by decide), hK⟩
theorem tb_le {sv : Nat → Nat → Bool} {hc : Nat → Nat → Nat} (h9 : ∀ e b, hc e b ≤ 99) {k busy : Nat} (hk : k ≤ 7) : (tb sv hc k busy).1 ≤ 7 ∧ (tb sv hc k busy).2 ≤ 693 := by
  have := tb_ok (sv := sv) h9 k busy
  unfold okq at this; omega
theorem tb_zero {sv : Nat → Nat → Bool} {hc : Nat → Nat → Nat} {hs : Nat} (h : ∀ e b, hs ≤ e → sv e b = false) : ∀ k busy, k + hs ≤ 7 → tb sv hc k busy = (0, 0)
  | 0, _, _ => rfl
  | k + 1, busy, hk => by
    have ih := tb_zero (hc := hc) h k
    show (List.range' 0 7).foldl (tbS sv hc (6 - k) busy (tb sv hc k)) (tb sv hc k busy) = (0, 0)
    rw [fold_id, ih busy (by omega)]
    intro i _
    unfold tbS
    rw [h (6 - k) i (by omega)]
    rfl
