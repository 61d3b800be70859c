/-! ===== chance ===== -/
def drawN (s : Nat) : Nat := (1103515245 * s + 12345) % 2147483648
theorem drawN_lt (s : Nat) : drawN s < 2 ^ 31 := Nat.mod_lt _ (by decide)
theorem lN_and {x : Nat} (h : x < 2 ^ 63) : lN x &&& 2147483647 = lN (x % 2147483648) := by
  apply Int64.toBitVec_inj.mp
  apply BitVec.eq_of_toNat_eq
  show ((lN x).toBitVec &&& (2147483647 : Int64).toBitVec).toNat = _
  rw [BitVec.toNat_and]
  have e1 : (lN x).toBitVec.toNat = x := Nat.mod_eq_of_lt (by omega)
  have e2 : (2147483647 : Int64).toBitVec.toNat = 2 ^ 31 - 1 := by decide
  have e3 : (lN (x % 2147483648)).toBitVec.toNat = x % 2147483648 := Nat.mod_eq_of_lt (by omega)
  rw [e1, e2, e3, Nat.and_two_pow_sub_one_eq_mod]
theorem lin_l (s : Nat) : 1103515245 * lN s + 12345 = lN (1103515245 * s + 12345) := by
  have e1 : (1103515245 : Int64) * lN s = lN (1103515245 * s) := (Int64.ofNat_mul 1103515245 s).symm
  rw [e1]
  exact (Int64.ofNat_add (1103515245 * s) 12345).symm
theorem c_draw {d s m : Nat} {M : mm_M} {K : Int32 → mm_M → Prop} (hG : mm_G M.2.2) (h5 : M.1 0 5 = nI s) (hs : s < 2 ^ 31) (hm0 : 0 < m) (hm : m < 2 ^ 31) (hK : K (nI (drawN s / 64 % m)) (mm_uI M 0 5 (nI (drawN s)))) : mm_CI mX11_draw d [.ref 0, .int (nI m)] M K := by
  have hd := drawN_lt s
  refine rX11_draw hG (ineg (nI_nle hm0 hm) ⟨nI_ne0 hm0 hm, ?_⟩)
  rw [uI_at, h5, nI_l hs, lin_l, lN_and (by omega), lN_I (by omega)]
  show K (nI (drawN s) / 64 - nI (drawN s) / 64 / nI m * nI m) (mm_uI M 0 5 (nI (drawN s)))
  have e1 : nI (drawN s) / 64 = nI (drawN s / 64) := pk_div (d := 64) hd (by decide) (by decide)
  rw [e1, pk_rem (Nat.lt_of_le_of_lt (Nat.div_le_self _ _) hd) hm0 hm]
  exact hK
theorem m_drawOf {d s m : Nat} {M : mm_M} {K : Int32 → mm_M → Prop} (hG : mm_G M.2.2) (h81 : M.2.1 164 81 = lN s) (hs : s < 2 ^ 31) (hm0 : 0 < m) (hm : m < 2 ^ 31) (hK : K (nI (drawN s / 64 % m)) (mm_uL M 164 81 (lN (drawN s)))) : mm_CI mX12_drawOf d [.ref 164, .int (nI m)] M K := by
  have hd := drawN_lt s
  refine rX12_drawOf hG ⟨?_, ?_⟩
  · rw [nI_l hm]
    intro q
    have := (pk_lEQ (a := m) (b := 0) (by omega) (by decide)).mp q
    omega
  · rw [uL_at, h81, lin_l, nI_l hm]
    have e0 : lN (1103515245 * s + 12345) - lN (1103515245 * s + 12345) / 2147483648 * 2147483648 = lN (drawN s) := pk_lRem (b := 2147483648) (by omega) (by decide) (by decide)
    rw [e0]
    have e1 : lN (drawN s) / 64 = lN (drawN s / 64) := pk_lDiv (b := 64) (by omega) (by decide) (by decide)
    have hlt : drawN s / 64 < 2 ^ 31 := Nat.lt_of_le_of_lt (Nat.div_le_self _ _) hd
    rw [e1, pk_lRem (by omega) hm0 (by omega), lN_I (Nat.lt_of_le_of_lt (Nat.mod_le _ _) hlt)]
    exact hK
def hitA (N : dN) (h : Nat) : dN := (N.1, N.2.1, setF N.2.2.1 h (N.2.2.1 h / 2), N.2.2.2.1, N.2.2.2.2)
theorem half_in {x : Int32} (h : inI 0 99 x) : inI 0 99 (x / 2) := by
  unfold inI at h
  have e := i32_nI h.1
  have e2 : nI x.toInt.toNat / 2 = nI (x.toInt.toNat / 2) := pk_div (d := 2) (by omega) (by decide) (by decide)
  rw [e, e2]
  unfold inI
  rw [nI_toInt (by omega)]
  omega
theorem hitA_v {U : dU} {N : dN} {h : Nat} (vn : vN U N) : vN U (hitA N h) := vSup vn (half_in (vn.2.2.1 h))
abbrev dY : Type := Nat × dN × List dQ × Nat
def chHit (U : dU) (fm s : Nat) : Bool := decide (drawN s / 64 % 100 < fm) && decide (0 < U.2.1)
def chN (U : dU) (fm : Nat) (Y : dY) : dN := if chHit U fm Y.1 then hitA Y.2.1 (drawN (drawN Y.1) / 64 % U.2.1) else Y.2.1
def chS (U : dU) (fm : Nat) (Y : dY) : dY := (if chHit U fm Y.1 then drawN (drawN Y.1) else drawN Y.1, dayC U (chN U fm Y) 0, keptA true Y.2.2.1 (chN U fm Y).1 (serveA U (chN U fm Y) 0).2.2.2, if chHit U fm Y.1 then Y.2.2.2 + 1 else Y.2.2.2)
def chA (U : dU) (fm : Nat) : Nat → dY → dY
  | 0, Y => Y
  | n + 1, Y => chS U fm (chA U fm n Y)
theorem chN_v {U : dU} {fm : Nat} {Y : dY} (vn : vN U Y.2.1) : vN U (chN U fm Y) := by
  unfold chN
  by_cases c : chHit U fm Y.1 = true
  · rw [if_pos c]; exact hitA_v vn
  · rw [if_neg c]; exact vn
theorem chN_d {U : dU} {fm : Nat} {Y : dY} : (chN U fm Y).1 = Y.2.1.1 := by
  unfold chN
  by_cases c : chHit U fm Y.1 = true
  · rw [if_pos c]; rfl
  · rw [if_neg c]
theorem chA_v {U : dU} {fm : Nat} {Y : dY} (vu : vU U) (vn : vN U Y.2.1) (hd : inI 0 999 Y.2.1.1) (hL : vL Y.2.2.1) (hs : Y.1 < 2 ^ 31) : ∀ n : Nat, Y.2.1.1.toInt + n ≤ 999 → vN U (chA U fm n Y).2.1 ∧ (chA U fm n Y).2.1.1.toInt = Y.2.1.1.toInt + n ∧ vL (chA U fm n Y).2.2.1 ∧ (chA U fm n Y).1 < 2 ^ 31 ∧ (chA U fm n Y).2.2.2 ≤ Y.2.2.2 + n
  | 0, _ => ⟨vn, by show Y.2.1.1.toInt = _; omega, hL, hs, Nat.le_refl _⟩
  | n + 1, hn => by
    obtain ⟨h1, h2, h3, h4, h5⟩ := chA_v (fm := fm) vu vn hd hL hs n (by omega)
    have hv := chN_v (fm := fm) (Y := chA U fm n Y) h1
    have hdd : inI 0 999 (chN U fm (chA U fm n Y)).1 := by rw [chN_d]; unfold inI at *; omega
    have hkk : vL (keptA true (chA U fm n Y).2.2.1 (chN U fm (chA U fm n Y)).1 (serveA U (chN U fm (chA U fm n Y)) 0).2.2.2) := keptA_v hdd _ _ h3 (serveA_lo vu hv)
    refine ⟨dayC_v vu hv, ?_, hkk, ?_, ?_⟩
    · show (nextD (chN U fm (chA U fm n Y)).1).toInt = _
      rw [chN_d]
      unfold nextD
      have e9 : (999 : Int32).toInt = 999 := rfl
      unfold inI at hd
      rw [if_neg (fun q => by have := i32_le.mp q; omega), Int32.toInt_add, h2]
      show (Y.2.1.1.toInt + n + 1 : Int).bmod _ = _
      rw [bm32 (by omega) (by omega)]
      omega
    · show (if chHit U fm (chA U fm n Y).1 then drawN (drawN (chA U fm n Y).1) else drawN (chA U fm n Y).1) < 2 ^ 31
      split
      · exact drawN_lt _
      · exact drawN_lt _
    · show (if chHit U fm (chA U fm n Y).1 then (chA U fm n Y).2.2.2 + 1 else (chA U fm n Y).2.2.2) ≤ _
      split <;> omega
def wCh (c j : Nat) : Prop := wS 37 c j ∨ (c = 0 ∧ j = 5)
theorem c_chance_loop {d n : Nat} {x1 : Int32} {a : dRU} {Y : dY} {M : mm_M} {K : Int32 → mm_M → Prop} (hG : mm_G M.2.2) (hR : cRU a M) (hdu : a.1 = true) (hf : a.2.2.2.1 ≤ 100) (vu : vU a.2.1) (vn : vN a.2.1 Y.2.1) (hd : inI 0 999 Y.2.1.1) (hL : vL Y.2.2.1) (hs : Y.1 < 2 ^ 31) (hn : Y.2.1.1.toInt + n ≤ 999) {B : Nat} (hB : B + 700 < 2 ^ 30) (hn100 : n ≤ 100) (hK : ∀ m, offM wCh M m → m.1 0 5 = nI (chA a.2.1 a.2.2.2.1 n Y).1 → cN 37 (chA a.2.1 a.2.2.2.1 n Y).2.1 m → cK 37 (chA a.2.1 a.2.2.2.1 n Y).2.2.1 (B + 700) m → K (nI (chA a.2.1 a.2.2.2.1 n Y).2.2.2) m) : ∀ (k i : Nat) (m : mm_M), i + k = n → offM wCh M m → m.1 0 5 = nI (chA a.2.1 a.2.2.2.1 i Y).1 → cN 37 (chA a.2.1 a.2.2.2.1 i Y).2.1 m → cK 37 (chA a.2.1 a.2.2.2.1 i Y).2.2.1 (B + 7 * i) m → jX11_chance_22 (d + 4) x1 m K (nI n) (nI (chA a.2.1 a.2.2.2.1 i Y).2.2.2) (nI i) := by
  have hu7 := vu.2.1
  have hr := Rl_at hR.2.2.2.1
  intro k
  induction k with
  | zero =>
    intro i m hi ho h5 n1 k1
    obtain rfl : i = n := by omega
    exact lX11_chance_22 (by rw [ho.2.2]; exact hG) (ipos (nI_le (Nat.le_refl _) (by omega)) (hK m ho h5 n1 (cK_le k1 (by omega))))
  | succ k ih =>
    intro i m hi ho h5 n1 k1
    have hGm : mm_G m.2.2 := by rw [ho.2.2]; exact hG
    obtain ⟨v1, v2, v3, v4, v5⟩ := chA_v (U := a.2.1) (fm := a.2.2.2.1) vu vn hd hL hs i (by omega)
    have ih := ih (i + 1)
    have eY : chA a.2.1 a.2.2.2.1 (i + 1) Y = chS a.2.1 a.2.2.2.1 (chA a.2.1 a.2.2.2.1 i Y) := rfl
    rw [eY] at ih
    generalize chA a.2.1 a.2.2.2.1 i Y = Z at h5 n1 k1 v1 v2 v3 v4 v5 ih ⊢
    have hN' := chN_v (fm := a.2.2.2.1) v1
    have run : ∀ (m1 : mm_M) (s' f' : Nat), offM wCh M m1 → m1.1 0 5 = nI s' → cN 37 (chN a.2.1 a.2.2.2.1 Z) m1 → cK 37 Z.2.2.1 (B + 7 * i) m1 → (chS a.2.1 a.2.2.2.1 Z).1 = s' → (chS a.2.1 a.2.2.2.1 Z).2.2.2 = f' → mm_CV mX1_run (d + 4) [.ref 21, .ref 37, .int 0, .int 1] m1 (fun m101 => jX11_chance_22 (d + 4) x1 m101 K (nI n) (nI f') (nI i + 1)) := by
      intro m1 s' f' o1 g5 nn kk e1 e2
      have hR1 : cRU a m1 := cRU_off hR (offA_M o1) (fun c j q => by unfold wCh wS at q; omega)
      refine c_run (rest := 0) (t := true) st37 (by rw [o1.2.2]; exact hG) (hR1.2.2.2.2.2.2.2.2.2.2 hdu) nn vu hN' (by decide) (fun m2 R => ?_)
      obtain ⟨o2, n2, -, -, l2, k2⟩ := R
      rw [nI_1, ← e2]
      refine ih m2 (by omega) (offM_tr o1 (offM_mono o2 (fun c j q => Or.inl q))) ?_ n2 (cK_le (k2 _ (B + 7 * i) (by omega) kk) (by omega))
      rw [o2.1 _ _ (by unfold wS; omega), e1]; exact g5
    refine lX11_chance_22 hGm (ineg (nI_ge (by omega) (by omega)) ?_)
    refine c_draw (m := 100) hGm h5 v4 (by decide) (by decide) ?_
    have o1 : offM (fun c j => c = 0 ∧ j = 5) m (mm_uI m 0 5 (nI (drawN Z.1))) := offM_uI ⟨rfl, rfl⟩
    have g5 : (mm_uI m 0 5 (nI (drawN Z.1))).1 0 5 = nI (drawN Z.1) := uI_at _ _ _ _
    generalize mm_uI m 0 5 (nI (drawN Z.1)) = m1 at o1 g5 ⊢
    have ho1 : offM wCh M m1 := offM_tr ho (offM_mono o1 (fun c j q => Or.inr q))
    have hG1 : mm_G m1.2.2 := by rw [ho1.2.2]; exact hG
    have hR1 : cRU a m1 := cRU_off hR (offA_M ho1) (fun c j q => by unfold wCh wS at q; omega)
    have n1' : cN 37 Z.2.1 m1 := cN_off n1 o1 (fun c j q => by omega)
    have k1' : cK 37 Z.2.2.1 (B + 7 * i) m1 := cK_off k1 o1 (fun c j q => by omega)
    have h100 : drawN Z.1 / 64 % 100 < 100 := Nat.mod_lt _ (by decide)
    refine ⟨_, hR1.1, hR1.2.2.2.1, ?_⟩
    rw [hR1.2.2.2.2.2.2.2.1]
    have miss : chHit a.2.1 a.2.2.2.1 Z.1 = false → mm_CV mX1_run (d + 4) [.ref 21, .ref 37, .int 0, .int 1] m1 (fun m101 => jX11_chance_22 (d + 4) x1 m101 K (nI n) (nI Z.2.2.2) (nI i + 1)) := fun hh =>
      run m1 (drawN Z.1) Z.2.2.2 ho1 g5 (by unfold chN; rw [hh]; exact n1') k1' (by unfold chS; rw [hh]; rfl) (by unfold chS; rw [hh]; rfl)
    by_cases c1 : a.2.2.2.1 ≤ drawN Z.1 / 64 % 100
    · refine ipos (nI_le c1 (by omega)) (miss ?_)
      unfold chHit
      have : ¬ drawN Z.1 / 64 % 100 < a.2.2.2.1 := by omega
      simp [this]
    · refine ineg (nI_ge (by omega) (by omega)) ⟨_, hR1.1, hR1.2.2.2.1, ?_⟩
      rw [hR1.2.2.2.2.2.2.1]
      by_cases c2 : a.2.1.2.1 = 0
      · refine ipos (by rw [c2]; decide) (miss ?_)
        unfold chHit
        simp [c2]
      · have hhit : chHit a.2.1 a.2.2.2.1 Z.1 = true := by
          unfold chHit
          have h1 : drawN Z.1 / 64 % 100 < a.2.2.2.1 := by omega
          have h2 : 0 < a.2.1.2.1 := by omega
          simp [h1, h2]
        refine ineg (nI_nle (by omega) (by omega)) ⟨_, hR1.1, hR1.2.2.2.1, ?_⟩
        rw [hR1.2.2.2.2.2.2.1]
        refine c_draw hG1 g5 (drawN_lt _) (by omega) (by omega) ?_
        have hst : drawN (drawN Z.1) / 64 % a.2.1.2.1 < a.2.1.2.1 := Nat.mod_lt _ (by omega)
        have o2 : offM (fun c j => c = 0 ∧ j = 5) m1 (mm_uI m1 0 5 (nI (drawN (drawN Z.1)))) := offM_uI ⟨rfl, rfl⟩
        have g5' : (mm_uI m1 0 5 (nI (drawN (drawN Z.1)))).1 0 5 = nI (drawN (drawN Z.1)) := uI_at _ _ _ _
        generalize mm_uI m1 0 5 (nI (drawN (drawN Z.1))) = m2 at o2 g5' ⊢
        have n2 : cN 37 Z.2.1 m2 := cN_off n1' o2 (fun c j q => by omega)
        have k2 : cK 37 Z.2.2.1 (B + 7 * i) m2 := cK_off k1' o2 (fun c j q => by omega)
        have ef : m2.1 38 (drawN (drawN Z.1) / 64 % a.2.1.2.1) = Z.2.1.2.2.1 (drawN (drawN Z.1) / 64 % a.2.1.2.1) := n2.2.2.1 _ (by omega)
        rw [nI_clamp (by omega), ef, nI_1 Z.2.2.2]
        refine ⟨vp_in_nI (by omega) (by decide), vp_in_nI (by omega) (by decide), ?_⟩
        have o3 : offM (fun c j => c = 38) m2 (mm_uI m2 38 (drawN (drawN Z.1) / 64 % a.2.1.2.1) (Z.2.1.2.2.1 (drawN (drawN Z.1) / 64 % a.2.1.2.1) / 2)) := offM_uI rfl
        refine run _ (drawN (drawN Z.1)) (Z.2.2.2 + 1) (offM_tr (offM_tr ho1 (offM_mono o2 (fun c j q => Or.inr q))) (offM_mono o3 (fun c j q => Or.inl (by unfold wS; omega)))) (by rw [uI_c (by decide)]; exact g5') ?_ (cK_off k2 o3 (fun c j q => by omega)) (by unfold chS; rw [hhit]; rfl) (by unfold chS; rw [hhit]; rfl)
        unfold chN
        rw [hhit]
        exact cN_uF n2
def wChM (c j : Nat) : Prop := wE c j ∨ (c = 164 ∧ j = 81)
theorem m_chance_loop {d n : Nat} {x1 : Int32} {a : dRU} {Y : dY} {M : mm_M} {K : Int32 → mm_M → Prop} (hG : mm_G M.2.2) (hR : mRU a M) (hf : a.2.2.2.1 ≤ 100) (vu : vU a.2.1) (vn : vN a.2.1 Y.2.1) (hd : inI 0 999 Y.2.1.1) (hL : vL Y.2.2.1) (hs : Y.1 < 2 ^ 31) (hn : Y.2.1.1.toInt + n ≤ 999) (hn100 : n ≤ 100) (hID : mID M) (hK : ∀ m, offM wChM M m → m.2.1 164 81 = lN (chA a.2.1 a.2.2.2.1 n Y).1 → mN (chA a.2.1 a.2.2.2.1 n Y).2.1 m → mK (chA a.2.1 a.2.2.2.1 n Y).2.2.1 m → K (nI (chA a.2.1 a.2.2.2.1 n Y).2.2.2) m) : ∀ (k i : Nat) (m : mm_M), i + k = n → offM wChM M m → m.2.1 164 81 = lN (chA a.2.1 a.2.2.2.1 i Y).1 → mN (chA a.2.1 a.2.2.2.1 i Y).2.1 m → mK (chA a.2.1 a.2.2.2.1 i Y).2.2.1 m → jX12_chance_25 (d + 11) x1 m K (nI n) (nI (chA a.2.1 a.2.2.2.1 i Y).2.2.2) (nI i) := by
  have hu7 := vu.2.1
  have t3 : (3 : Int32).toNatClampNeg = 3 := rfl
  intro k
  induction k with
  | zero =>
    intro i m hi ho h5 n1 k1
    obtain rfl : i = n := by omega
    exact lX12_chance_25 (by rw [ho.2.2]; exact hG) (ipos (nI_le (Nat.le_refl _) (by omega)) (hK m ho h5 n1 k1))
  | succ k ih =>
    intro i m hi ho h5 n1 k1
    have hGm : mm_G m.2.2 := by rw [ho.2.2]; exact hG
    obtain ⟨v1, v2, v3, v4, v5⟩ := chA_v (U := a.2.1) (fm := a.2.2.2.1) vu vn hd hL hs i (by omega)
    have ih := ih (i + 1)
    have eY : chA a.2.1 a.2.2.2.1 (i + 1) Y = chS a.2.1 a.2.2.2.1 (chA a.2.1 a.2.2.2.1 i Y) := rfl
    rw [eY] at ih
    generalize chA a.2.1 a.2.2.2.1 i Y = Z at h5 n1 k1 v1 v2 v3 v4 v5 ih ⊢
    have hN' := chN_v (fm := a.2.2.2.1) v1
    have hday : (chN a.2.1 a.2.2.2.1 Z).1.toInt < 999 := by rw [chN_d]; omega
    have run : ∀ (m1 : mm_M) (s' f' : Nat), offM wChM M m1 → m1.2.1 164 81 = lN s' → mN (chN a.2.1 a.2.2.2.1 Z) m1 → mK Z.2.2.1 m1 → (chS a.2.1 a.2.2.2.1 Z).1 = s' → (chS a.2.1 a.2.2.2.1 Z).2.2.2 = f' → mm_CV mX12_dayGoes (d + 11) [.ref 164] m1 (fun m85 => jX12_chance_25 (d + 11) x1 m85 K (nI n) (nI f') (nI i + 1)) := by
      intro m1 s' f' o1 g5 nn kk e1 e2
      refine m_dayGoes (rest := 0) (th := false) (L := Z.2.2.1) (by rw [o1.2.2]; exact hG) (mU_off hR.2.1 o1 (fun c j q => by unfold wChM wE wA at q; omega)) nn vu hN' (by decide) (by rw [o1.1 _ _ (by unfold wChM wE wA; omega)]; exact hID.2.1) (by rw [o1.1 _ _ (by unfold wChM wE wA; omega), hID.1]; rfl) kk (fun m2 R => ?_)
      obtain ⟨o2, n2, -, -, -, k2⟩ := R
      rw [← dayC_M hday] at n2
      rw [nI_1, ← e2]
      refine ih m2 (by omega) (offM_tr o1 (offM_mono o2 (fun c j q => Or.inl q))) ?_ n2 k2
      rw [o2.2.1 _ _ (by unfold wE wA; omega), e1]; exact g5
    refine lX12_chance_25 hGm (ineg (nI_ge (by omega) (by omega)) ?_)
    refine m_drawOf (m := 100) hGm h5 v4 (by decide) (by decide) ?_
    have o1 : offM (fun c j => c = 164 ∧ j = 81) m (mm_uL m 164 81 (lN (drawN Z.1))) := offM_uL ⟨rfl, rfl⟩
    have g5 : (mm_uL m 164 81 (lN (drawN Z.1))).2.1 164 81 = lN (drawN Z.1) := uL_at _ _ _ _
    generalize mm_uL m 164 81 (lN (drawN Z.1)) = m1 at o1 g5 ⊢
    have ho1 : offM wChM M m1 := offM_tr ho (offM_mono o1 (fun c j q => Or.inr q))
    have hG1 : mm_G m1.2.2 := by rw [ho1.2.2]; exact hG
    have hR1 : mRU a m1 := mRU_off hR (offA_M ho1) (fun c j q => by unfold wChM wE wA at q; omega)
    have n1' : mN Z.2.1 m1 := mN_off n1 o1 (fun c j q => by omega)
    have k1' : mK Z.2.2.1 m1 := mK_off k1 o1 (fun c j q => by omega)
    have h100 : drawN Z.1 / 64 % 100 < 100 := Nat.mod_lt _ (by decide)
    rw [t3, hR1.2.2.1]
    have miss : chHit a.2.1 a.2.2.2.1 Z.1 = false → mm_CV mX12_dayGoes (d + 11) [.ref 164] m1 (fun m85 => jX12_chance_25 (d + 11) x1 m85 K (nI n) (nI Z.2.2.2) (nI i + 1)) := fun hh =>
      run m1 (drawN Z.1) Z.2.2.2 ho1 g5 (by unfold chN; rw [hh]; exact n1') k1' (by unfold chS; rw [hh]; rfl) (by unfold chS; rw [hh]; rfl)
    by_cases c1 : a.2.2.2.1 ≤ drawN Z.1 / 64 % 100
    · refine ipos (nI_le c1 (by omega)) (miss ?_)
      unfold chHit
      have : ¬ drawN Z.1 / 64 % 100 < a.2.2.2.1 := by omega
      simp [this]
    · refine ineg (nI_ge (by omega) (by omega)) (m_houseMany hG1 ?_)
      rw [hR1.2.1.2.1]
      by_cases c2 : a.2.1.2.1 = 0
      · refine ipos (by rw [c2]; decide) (miss ?_)
        unfold chHit
        simp [c2]
      · have hhit : chHit a.2.1 a.2.2.2.1 Z.1 = true := by
          unfold chHit
          have h1 : drawN Z.1 / 64 % 100 < a.2.2.2.1 := by omega
          have h2 : 0 < a.2.1.2.1 := by omega
          simp [h1, h2]
        refine ineg (nI_nle (by omega) (by omega)) (m_houseMany hG1 ?_)
        rw [hR1.2.1.2.1]
        refine m_drawOf hG1 g5 (drawN_lt _) (by omega) (by omega) ?_
        have hst : drawN (drawN Z.1) / 64 % a.2.1.2.1 < a.2.1.2.1 := Nat.mod_lt _ (by omega)
        have o2 : offM (fun c j => c = 164 ∧ j = 81) m1 (mm_uL m1 164 81 (lN (drawN (drawN Z.1)))) := offM_uL ⟨rfl, rfl⟩
        have g5' : (mm_uL m1 164 81 (lN (drawN (drawN Z.1)))).2.1 164 81 = lN (drawN (drawN Z.1)) := uL_at _ _ _ _
        generalize mm_uL m1 164 81 (lN (drawN (drawN Z.1))) = m2 at o2 g5' ⊢
        have n2 : mN Z.2.1 m2 := mN_off n1' o2 (fun c j q => by omega)
        have k2 : mK Z.2.2.1 m2 := mK_off k1' o2 (fun c j q => by omega)
        have hG2 : mm_G m2.2.2 := by rw [o2.2.2]; exact hG1
        refine m_flourOf hG2 n2 (by omega) ?_
        rw [mx2 _ (by omega), nI_clamp (by omega), nI_1 Z.2.2.2]
        refine ⟨vp_in_nI (by omega) (by decide), ?_⟩
        have o3 : offM (fun c j => c = 199 ∧ j < 43) m2 (mm_uI m2 199 (2 + 3 * (drawN (drawN Z.1) / 64 % a.2.1.2.1)) (Z.2.1.2.2.1 (drawN (drawN Z.1) / 64 % a.2.1.2.1) / 2)) := offM_uI (by omega)
        refine run _ (drawN (drawN Z.1)) (Z.2.2.2 + 1) (offM_tr (offM_tr ho1 (offM_mono o2 (fun c j q => Or.inr q))) (offM_mono o3 (fun c j q => Or.inl (by unfold wE; omega)))) g5' ?_ (mK_off k2 o3 (fun c j q => by omega)) (by unfold chS; rw [hhit]; rfl) (by unfold chS; rw [hhit]; rfl)
        unfold chN
        rw [hhit]
        exact mN_uF n2 (by omega)
theorem s24 : lw_S24 Inv := by
  intro u M x1 hu hG hI
  refine stepI hI (fun a hv hc hm => ?_)
  have vu := hv.2.1.1
  have vn := hv.2.2.1.1.1
  have hd := hv.2.2.1.1.2.1
  have vl := hv.2.2.1.1.2.2
  have hsd := hv.1.2.2.1
  have hV : a.2.2.2.2 < 2 ^ 30 := by have := hv.2.2.2.2; omega
  have t3 : (3 : Int32).toNatClampNeg = 3 := rfl
  by_cases cn : a.2.1.1 = true ∧ 1 ≤ x1.toInt ∧ x1.toInt ≤ 100 ∧ a.2.2.1.1.1.toInt + x1.toInt ≤ 999
  · obtain ⟨hdu, n1, n2, n3⟩ := cn
    obtain ⟨n, hn1, hn, rfl⟩ : ∃ n, 1 ≤ n ∧ n ≤ 100 ∧ x1 = nI n := ⟨x1.toInt.toNat, by omega, by omega, i32_nI (by omega)⟩
    have hsum : a.2.2.1.1.1.toInt + n ≤ 999 := by rw [nI_toInt (by omega)] at n3; exact n3
    have cn' : a.2.1.1 = true ∧ 1 ≤ (nI n).toInt ∧ (nI n).toInt ≤ 100 ∧ a.2.2.1.1.1.toInt + (nI n).toInt ≤ 999 := ⟨hdu, n1, n2, n3⟩
    have hY := chA_v (U := a.2.1.2.1) (fm := a.2.1.2.2.2.1) (Y := (a.1.2.2.2.2.2.1, a.2.2.1.1, a.2.2.1.2.1, 0)) vu vn hd vl hsd n hsum
    generalize hYe : (a.1.2.2.2.2.2.1, a.2.2.1.1, a.2.2.1.2.1, 0) = Y at hY
    have y1 : Y.1 = a.1.2.2.2.2.2.1 := by rw [← hYe]
    have y2 : Y.2.1 = a.2.2.1.1 := by rw [← hYe]
    have y3 : Y.2.2.1 = a.2.2.1.2.1 := by rw [← hYe]
    have y4 : Y.2.2.2 = 0 := by rw [← hYe]
    obtain ⟨w1, w2, w3, w4, w5⟩ := hY
    refine ⟨nI (chA a.2.1.2.1 a.2.1.2.2.2.1 n Y).2.2.2, actA a (seedA a.1 (chA a.2.1.2.1 a.2.1.2.2.2.1 n Y).1) ((chA a.2.1.2.1 a.2.1.2.2.2.1 n Y).2.1, (chA a.2.1.2.1 a.2.1.2.2.2.1 n Y).2.2.1, (remA a.2.2.1).2.2), VV_act hv ⟨hv.1.1, hv.1.2.1, w4, hv.1.2.2.2⟩ ⟨⟨w1, ?_, w3⟩, remA_v hv.2.2.1⟩, ?_, fun m hGm hmm => ?_⟩
    · show inI 0 999 (chA a.2.1.2.1 a.2.1.2.2.2.1 n Y).2.1.1
      rw [y2] at w2
      unfold inI at *
      omega
    · refine rX11_chance hG (c_canPass hG hc.2.1 hc.2.2.1.1 hd (fun n' _ en' _ hn' hs' => ineg (by decide) ?_) (fun z => absurd cn' z))
      refine c_beginAct hG hc.2.2.1 hc.2.2.2.2.1 (fun m1 o1 s1 g18 => ?_)
      have hG1 : mm_G m1.2.2 := by rw [o1.2.2]; exact hG
      have hr := Rl_at hc.2.1.2.2.2.1
      have hR1 : cRU a.2.1 m1 := cRU_off hc.2.1 (offA_M o1) (fun c j q => by unfold wAct wHi at q; omega)
      have c5 : m1.1 0 5 = nI Y.1 := by rw [o1.1 _ _ (by unfold wAct wHi; omega), y1]; exact hc.1.2.2.2.2.2.1
      have := c_chance_loop (d := 895) (x1 := nI n) (Y := Y) (B := 700 * u) (K := cQ u (actA a (seedA a.1 (chA a.2.1.2.1 a.2.1.2.2.2.1 n Y).1) ((chA a.2.1.2.1 a.2.1.2.2.2.1 n Y).2.1, (chA a.2.1.2.1 a.2.1.2.2.2.1 n Y).2.2.1, (remA a.2.2.1).2.2)) (nI (chA a.2.1.2.1 a.2.1.2.2.2.1 n Y).2.2.2) M) hG1 hR1 hdu hv.2.1.2.1 vu (by rw [y2]; exact vn) (by rw [y2]; exact hd) (by rw [y3]; exact vl) (by rw [y1]; exact hsd) (by rw [y2]; exact hsum) (by omega) hn (fun m2 o2 h5 n2 k2 => ?_) n 0 m1 (by omega) offM_rf c5 (by show cN 37 Y.2.1 m1; rw [y2]; exact s1.1) (by show cK 37 Y.2.2.1 (700 * u + 7 * 0) m1; rw [y3]; exact s1.2.1)
      · have e0 : (chA a.2.1.2.1 a.2.1.2.2.2.1 0 Y).2.2.2 = 0 := y4
        rw [e0] at this
        exact this
      · have s1' : cST (700 * u) (remA a.2.2.1) m1 := s1
        have s2 : cST (700 * (u + 1)) ((chA a.2.1.2.1 a.2.1.2.2.2.1 n Y).2.1, (chA a.2.1.2.1 a.2.1.2.2.2.1 n Y).2.2.1, (remA a.2.2.1).2.2) m2 := by
          obtain ⟨f1, f2, f3, f4, p, f5, f6, f7⟩ := s1'
          refine ⟨n2, cK_le k2 (by omega), f3, by rw [o2.1 _ _ (by unfold wCh wS; omega)]; exact f4, p, f5, by rw [o2.1 _ _ (by unfold wCh wS; omega)]; exact f6, fun k x hx => ?_⟩
          have hm : (p + 19 - k) % 20 < 20 := Nat.mod_lt _ (by decide)
          have := f7 k x hx
          generalize (p + 19 - k) % 20 = i at hm this
          exact ⟨cN_off this.1 o2 (fun c j q z => by unfold wCh wS at q; unfold stc at z; omega), cK_le (cK_off this.2 o2 (fun c j q z => by unfold wCh wS at q; unfold stc at z; omega)) (by omega)⟩
        have o : offM (fun c j => wAct c j ∨ wCh c j) M m2 := offM_tr (offM_mono o1 (fun c j q => Or.inl q)) (offM_mono o2 (fun c j q => Or.inr q))
        refine ⟨rfl, offA_of o (fun c j q => by unfold wAct wHi wCh wS at q; unfold cl; omega), CC_act hc hV (offA_M o) (fun c j q => by unfold wAct wHi wCh wS at q; unfold k1 k5 k9; omega) ?_ s2 ?_⟩
        · obtain ⟨h1, h2, h3, h4, h5', h6, h7, h8⟩ := hc.1
          exact ⟨fun j hj => by rw [o.1 _ _ (by unfold wAct wHi wCh wS; omega)]; exact h1 j hj, by rw [o.1 _ _ (by unfold wAct wHi wCh wS; omega)]; exact h2, fun j hj => by rw [o.1 _ _ (by unfold wAct wHi wCh wS; omega)]; exact h3 j hj, by rw [o.1 _ _ (by unfold wAct wHi wCh wS; omega)]; exact h4, by rw [o.1 _ _ (by unfold wAct wHi wCh wS; omega)]; exact h5', h5, fun j hj => by rw [o.1 _ _ (by unfold wAct wHi wCh wS; omega)]; exact h7 j hj, by rw [o.1 _ _ (by unfold wAct wHi wCh wS; omega)]; exact h8⟩
        · rw [o2.1 _ _ (by unfold wCh wS; omega)]; exact g18
    · obtain ⟨d1, d2, d3, d4, d5⟩ := id hmm
      refine rX12_chance hGm (m_isAhead (lo := 1) (hi := 100) hGm d2 d3.1 hd (by decide) (by decide) (fun n' _ en' _ hn' _ => ineg (by decide) ?_) (fun z => absurd cn' z))
      refine m_keeps hGm d3 hc.2.2.1.2.2.1 (fun m1 o1 s1 => ?_)
      have hR1 : mRU a.2.1 m1 := mRU_off d2 (offA_M o1) (fun c j q => by unfold wKe at q; omega)
      have c5 : m1.2.1 164 81 = lN Y.1 := by rw [o1.2.1 _ _ (by unfold wKe; omega), y1]; exact d1.2.2.2.2.2.1
      have := m_chance_loop (d := 888) (x1 := nI n) (Y := Y) (K := mQ (actA a (seedA a.1 (chA a.2.1.2.1 a.2.1.2.2.2.1 n Y).1) ((chA a.2.1.2.1 a.2.1.2.2.2.1 n Y).2.1, (chA a.2.1.2.1 a.2.1.2.2.2.1 n Y).2.2.1, (remA a.2.2.1).2.2)) (nI (chA a.2.1.2.1 a.2.1.2.2.2.1 n Y).2.2.2) m) (by rw [o1.2.2]; exact hGm) hR1 hv.2.1.2.1 vu (by rw [y2]; exact vn) (by rw [y2]; exact hd) (by rw [y3]; exact vl) (by rw [y1]; exact hsd) (by rw [y2]; exact hsum) hn (mID_off d5 (offA_M o1) (fun c j q => by unfold wKe at q; omega)) (fun m2 o2 h5 n2 k2 => ?_) n 0 m1 (by omega) offM_rf c5 (by show mN Y.2.1 m1; rw [y2]; exact s1.1) (by show mK Y.2.2.1 m1; rw [y3]; exact s1.2.1)
      · have e0 : (chA a.2.1.2.1 a.2.1.2.2.2.1 0 Y).2.2.2 = 0 := y4
        rw [e0] at this
        exact this
      · have s2 : mST ((chA a.2.1.2.1 a.2.1.2.2.2.1 n Y).2.1, (chA a.2.1.2.1 a.2.1.2.2.2.1 n Y).2.2.1, (remA a.2.2.1).2.2) m2 := mST_run s1 o2 (fun c j q => by unfold wChM wE wA at q; omega) n2 k2
        have o : offM (fun c j => wKe c j ∨ wChM c j) m m2 := offM_tr (offM_mono o1 (fun c j q => Or.inl q)) (offM_mono o2 (fun c j q => Or.inr q))
        refine ⟨rfl, offA_of o (fun c j q => by unfold wKe wChM wE wA at q; unfold ml; omega), MM_act hmm (offA_M o) (fun c j q z => by unfold wKe wChM wE wA at q; unfold k4 k8 k10 at z; omega) ?_ s2⟩
        obtain ⟨h1, h2, h3, h4, h5', h6, h7, h8⟩ := d1
        exact ⟨fun j hj => by rw [o.1 _ _ (by unfold wKe wChM wE wA; omega)]; exact h1 j hj, by rw [o.1 _ _ (by unfold wKe wChM wE wA; omega)]; exact h2, fun j hj => by rw [o.1 _ _ (by unfold wKe wChM wE wA; omega)]; exact h3 j hj, by rw [o.1 _ _ (by unfold wKe wChM wE wA; omega)]; exact h4, by rw [o.1 _ _ (by unfold wKe wChM wE wA; omega)]; exact h5', h5, fun j hj => by rw [o.1 _ _ (by unfold wKe wChM wE wA; omega)]; exact h7 j hj, by rw [o.1 _ _ (by unfold wKe wChM wE wA; omega)]; exact h8⟩
  · refine ⟨-1, (refA a.1 3, a.2), VV_io hv (refA_v hv.1), ?_, fun m hGm hmm => ?_⟩
    · exact rX11_chance hG (c_canPass hG hc.2.1 hc.2.2.1.1 hd (fun n' h1 en' h2 h3 h4 => absurd ⟨h1, by rw [en', nI_toInt (by omega)]; omega, by rw [en', nI_toInt (by omega)]; omega, by rw [en', nI_toInt (by omega)]; exact h4⟩ cn) (fun _ => ipos rfl (c_refuse (k := 3) hG hc.1 (by decide) (fun m1 o1 i1 => ⟨rfl, offA_of o1 (fun c j q => by unfold cl; omega), CC_io hc (offA_M o1) (fun c j q => by unfold k1; omega) i1⟩))))
    · obtain ⟨o1, i1⟩ := m_refused hmm.1 (k := 3) (by decide)
      refine rX12_chance hGm (m_isAhead (lo := 1) (hi := 100) hGm hmm.2.1 hmm.2.2.1.1 hd (by decide) (by decide) (fun n' h1 en' h2 h3 h4 => absurd ⟨h1, by rw [en', nI_toInt (by omega)]; omega, by rw [en', nI_toInt (by omega)]; omega, by rw [en', nI_toInt (by omega)]; exact h4⟩ cn) (fun _ => ipos rfl (rX12_refuses hGm ?_)))
      rw [t3]
      exact ⟨vp_in_nI (n := 3) (by decide) (by decide), vp_in_nI (n := 3) (by decide) (by decide), rfl, offA_of o1 (fun c j q => by unfold ml; omega), MM_io hmm (offA_M o1) (fun c j q => by unfold k2; omega) i1⟩
