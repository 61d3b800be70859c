/-! ===== acts and what is kept for undo ===== -/
theorem stc_in {i : Nat} (h : i < 20) : stc i ∈ mm_Sts := (by decide +kernel : ∀ i, i < 20 → stc i ∈ mm_Sts) i h
theorem stc_fin {i : Nat} (h : i < 20) : (48, i, stc i) ∈ mm_FIN := (by decide +kernel : ∀ i, i < 20 → (48, i, stc i) ∈ mm_FIN) i h
theorem stc_G {f : Nat → Nat → Option Nat} (hG : mm_G f) {i : Nat} (h : i < 20) : f 48 i = some (stc i) := hG _ (stc_fin h)
def remA (a : dST) : dST := (a.1, a.2.1, ((a.1, a.2.1) :: a.2.2).take 20)
def wHi (c j : Nat) : Prop := (c = 47 ∧ (j = 1 ∨ j = 2)) ∨ (49 ≤ c ∧ c ≤ 148)
theorem r20 {n : Nat} (h : n < 2 ^ 31) : nI n - nI n / 20 * 20 = nI (n % 20) := pk_rem (d := 20) h (by decide) (by decide)
theorem c_remember {d B : Nat} {a : dST} {M : mm_M} {K : mm_M → Prop} (hG : mm_G M.2.2) (hS : cST B a M) (hK : ∀ m, offM wHi M m → cST B (remA a) m → K m) : mm_CV mX4_remember (d + 2) [.ref 47, .ref 37] M K := by
  obtain ⟨h1, h2, h3, h4, p, p20, h5, h6⟩ := hS
  refine rX4_remember st37 hG ?_
  rw [h5, nI_clamp (by omega)]
  refine ⟨vp_in_nI p20 (by decide), stc p, stc_G hG p20, stc_in p20, ?_⟩
  refine c_copyFrom (stc_in p20) st37 (by unfold stc; omega) hG h1 (fun m1 o1 n1 k1 => ?_)
  refine lX4_remember_19 st37 (by rw [o1.2.2]; exact hG) ?_
  have e47 : m1.1 47 1 = nI p := by rw [o1.1 _ _ (by unfold wCp stc; omega)]; exact h5
  have e48 : m1.1 47 2 = nI a.2.2.length := by rw [o1.1 _ _ (by unfold wCp stc; omega)]; exact h4
  rw [e47, nI_1, r20 (by omega), uI_j (by decide), e48, nI_1]
  have el : (if 20 < nI (a.2.2.length + 1) then 20 else nI (a.2.2.length + 1)) = nI (min 20 (a.2.2.length + 1)) := by
    by_cases c : 20 < a.2.2.length + 1
    · have l : (20 : Int32) < nI (a.2.2.length + 1) := nI_lt (a := 20) c (by omega)
      rw [if_pos l, Nat.min_eq_left (by omega)]
      rfl
    · have l : ¬ (20 : Int32) < nI (a.2.2.length + 1) := nI_nlt (a := 20) (by omega) (by decide)
      rw [if_neg l, Nat.min_eq_right (by omega)]
  rw [el]
  have o2 : offM (fun c j => c = 47 ∧ (j = 1 ∨ j = 2)) m1 (mm_uI (mm_uI m1 47 1 (nI ((p + 1) % 20))) 47 2 (nI (min 20 (a.2.2.length + 1)))) := offM_tr (offM_uI (by omega)) (offM_uI (by omega))
  have g1 : (mm_uI (mm_uI m1 47 1 (nI ((p + 1) % 20))) 47 2 (nI (min 20 (a.2.2.length + 1)))).1 47 1 = nI ((p + 1) % 20) := by rw [uI_j (by decide), uI_at]
  have g2 : (mm_uI (mm_uI m1 47 1 (nI ((p + 1) % 20))) 47 2 (nI (min 20 (a.2.2.length + 1)))).1 47 2 = nI (min 20 (a.2.2.length + 1)) := uI_at _ _ _ _
  generalize mm_uI (mm_uI m1 47 1 (nI ((p + 1) % 20))) 47 2 (nI (min 20 (a.2.2.length + 1))) = m2 at o2 g1 g2 ⊢
  have p20' := p20
  refine hK m2 (offM_tr (offM_mono o1 (fun c j q => by unfold wCp stc at q; unfold wHi; omega)) (offM_mono o2 (fun c j q => Or.inl q))) ⟨?_, ?_, ?_, ?_, (p + 1) % 20, Nat.mod_lt _ (by decide), g1, fun k s hs => ?_⟩
  · exact cN_off (cN_off h1 o1 (fun c j q => by unfold wCp stc at q; omega)) o2 (fun c j q => by omega)
  · exact cK_off (cK_off h2 o1 (fun c j q => by unfold wCp stc at q; omega)) o2 (fun c j q => by omega)
  · show (((a.1, a.2.1) :: a.2.2).take 20).length ≤ 20
    rw [List.length_take]; omega
  · show _ = nI (((a.1, a.2.1) :: a.2.2).take 20).length
    rw [g2, List.length_take]
    rfl
  · have hs : (((a.1, a.2.1) :: a.2.2).take 20)[k]? = some s := hs
    rw [List.getElem?_take] at hs
    by_cases hk : k < 20
    · rw [if_pos hk] at hs
      cases k with
      | zero =>
        have e : s = (a.1, a.2.1) := by simpa using hs.symm
        subst e
        have ei : ((p + 1) % 20 + 19 - 0) % 20 = p := by omega
        rw [ei]
        exact ⟨cN_off n1 o2 (fun c j q => by unfold stc; omega), cK_off (k1 _ _ h2) o2 (fun c j q => by unfold stc; omega)⟩
      | succ k =>
        have hs : a.2.2[k]? = some s := by simpa using hs
        have ei : ((p + 1) % 20 + 19 - (k + 1)) % 20 = (p + 19 - k) % 20 := by omega
        have en : (p + 19 - k) % 20 ≠ p := by omega
        have el : (p + 19 - k) % 20 < 20 := Nat.mod_lt _ (by decide)
        rw [ei]
        have := h6 k s hs
        generalize (p + 19 - k) % 20 = i at this en el
        exact ⟨cN_off (cN_off this.1 o1 (fun c j q => by unfold wCp stc at q; unfold stc; omega)) o2 (fun c j q => by unfold stc; omega), cK_off (cK_off this.2 o1 (fun c j q => by unfold wCp stc at q; unfold stc; omega)) o2 (fun c j q => by unfold stc; omega)⟩
    · rw [if_neg hk] at hs; cases hs
def wAct (c j : Nat) : Prop := wHi c j ∨ (c = 0 ∧ j = 18)
theorem c_beginAct {d B V : Nat} {a : dST} {M : mm_M} {K : mm_M → Prop} (hG : mm_G M.2.2) (hS : cST B a M) (h18 : M.1 0 18 = nI V) (hK : ∀ m, offM wAct M m → cST B (remA a) m → m.1 0 18 = nI (V + 1) → K m) : mm_CV mX11_beginAct (d + 3) [.ref 0] M K := by
  refine rX11_beginAct hG (c_remember hG hS (fun m o s => ?_))
  have e : m.1 0 18 = nI V := by rw [o.1 _ _ (by unfold wHi; omega)]; exact h18
  rw [e, nI_1]
  have o2 : offM (fun c j => c = 0 ∧ j = 18) m (mm_uI m 0 18 (nI (V + 1))) := offM_uI ⟨rfl, rfl⟩
  exact hK _ (offM_tr (offM_mono o (fun c j q => Or.inl q)) (offM_mono o2 (fun c j q => Or.inr q))) (cST_off s (offA_M o2) (fun c j q => by omega)) (uI_at _ _ _ _)
/-! keeps -/
def wKe (c j : Nat) : Prop := c = 216 ∨ (c = 164 ∧ (j = 79 ∨ j = 80))
theorem m_keeps {d : Nat} {a : dST} {M : mm_M} {K : mm_M → Prop} (hG : mm_G M.2.2) (hS : mST a M) (h20 : a.2.2.length ≤ 20) (hK : ∀ m, offM wKe M m → mST (remA a) m → K m) : mm_CV mX12_keeps d [.ref 164] M K := by
  obtain ⟨h1, h2, h3, p, p20, h5, h6⟩ := hS
  refine rX12_keeps hG ?_
  rw [h5, nI_1, r20 (by omega)]
  generalize hp' : (p + 1) % 20 = p'
  have p20' : p' < 20 := by omega
  have o0 : offM wKe M (mm_uI M 164 80 (nI p')) := offM_uI (by unfold wKe; omega)
  have g0 : (mm_uI M 164 80 (nI p')).1 164 80 = nI p' := uI_at _ _ _ _
  have q0 : ∀ j, (mm_uI M 164 80 (nI p')).1 216 j = M.1 216 j := fun j => by rw [uI_c (by decide)]
  have r0 : (mm_uI M 164 80 (nI p')).1 164 79 = nI a.2.2.length := by rw [uI_j (by decide)]; exact h3
  generalize mm_uI M 164 80 (nI p') = m0 at o0 g0 q0 r0 ⊢
  have fin : ∀ m, offM wKe M m → m.1 164 80 = nI p' → m.1 164 79 = nI (min 20 (a.2.2.length + 1)) → (∀ j, j < 204 → m.1 216 (204 * p' + j) = M.1 199 j) → (∀ j, ¬ (204 * p' ≤ j ∧ j < 204 * p' + 204) → m.1 216 j = M.1 216 j) → K m := by
    intro m o g80 g79 hc hn
    refine hK m o ⟨mN_off h1 o (fun c j q => by unfold wKe at q; omega), mK_off h2 o (fun c j q => by unfold wKe at q; omega), ?_, p', p20', g80, fun k s hs => ?_⟩
    · show _ = nI (((a.1, a.2.1) :: a.2.2).take 20).length
      rw [g79, List.length_take]
      rfl
    · have hs : (((a.1, a.2.1) :: a.2.2).take 20)[k]? = some s := hs
      rw [List.getElem?_take] at hs
      by_cases hk : k < 20
      · rw [if_pos hk] at hs
        cases k with
        | zero =>
          have e : s = (a.1, a.2.1) := by simpa using hs.symm
          subst e
          have ei : (p' + 20 - 0) % 20 = p' := by omega
          rw [ei]
          exact ⟨mN_eq h1 (fun j hj => hc j (by omega)), mK_eq h2 (fun j _ hj => hc j hj)⟩
        | succ k =>
          have hs : a.2.2[k]? = some s := by simpa using hs
          have ei : (p' + 20 - (k + 1)) % 20 = (p + 20 - k) % 20 := by omega
          have en : (p + 20 - k) % 20 ≠ p' := by omega
          rw [ei]
          have := h6 k s hs
          generalize (p + 20 - k) % 20 = i at this en
          refine ⟨mN_eq this.1 (fun j hj => ?_), mK_eq this.2 (fun j _ hj => ?_)⟩
          · show m.1 216 (204 * i + j) = M.1 216 (204 * i + j)
            exact hn _ (by omega)
          · show m.1 216 (204 * i + j) = M.1 216 (204 * i + j)
            exact hn _ (by omega)
      · rw [if_neg hk] at hs; cases hs
  have loop : ∀ (k i : Nat) (m : mm_M), i + k = 204 → offM wKe M m → m.1 164 80 = nI p' → m.1 164 79 = nI a.2.2.length → (∀ j, j < i → m.1 216 (204 * p' + j) = M.1 199 j) → (∀ j, ¬ (204 * p' ≤ j ∧ j < 204 * p' + 204) → m.1 216 j = M.1 216 j) → jX12_keeps_15 d m K (nI i) := by
    intro k
    induction k with
    | zero =>
      intro i m hi o g80 g79 hc hn
      obtain rfl : i = 204 := by omega
      refine lX12_keeps_15 (by rw [o.2.2]; exact hG) (ipos (by decide) ?_)
      rw [g79]
      by_cases c : 20 ≤ a.2.2.length
      · refine ipos (nI_le (a := 20) c (by omega)) (fin m o g80 ?_ hc hn)
        rw [g79, Nat.min_eq_left (by omega)]
        congr 1
        omega
      · refine ineg (nI_ge (b := 20) (by omega) (by decide)) ?_
        rw [nI_1]
        refine fin _ (offM_tr o (offM_uI (by unfold wKe; omega))) (by rw [uI_j (by decide)]; exact g80) ?_ (fun j hj => by rw [uI_c (by decide)]; exact hc j hj) (fun j hj => by rw [uI_c (by decide)]; exact hn j hj)
        rw [uI_at, Nat.min_eq_right (by omega)]
    | succ k ih =>
      intro i m hi o g80 g79 hc hn
      have em : 204 * nI p' = nI (204 * p') := pk_mul 204 p'
      refine lX12_keeps_15 (by rw [o.2.2]; exact hG) (ineg (nI_ge (b := 204) (by omega) (by decide)) ?_)
      rw [g80, em, nI_add, nI_1, nI_clamp (n := 204 * p' + i) (by omega), nI_clamp (n := i) (by omega), o.1 199 i (by unfold wKe; omega)]
      refine ⟨vp_in_nI (by omega) (by decide), vp_in_nI (by omega) (by decide), ?_⟩
      refine ih (i + 1) _ (by omega) (offM_tr o (offM_uI (Or.inl rfl))) (by rw [uI_c (by decide)]; exact g80) (by rw [uI_c (by decide)]; exact g79) (fun j hj => ?_) (fun j hj => ?_)
      · by_cases c : j = i
        · subst c; exact uI_at _ _ _ _
        · rw [uI_j (by omega)]; exact hc j (by omega)
      · rw [uI_j (by omega)]; exact hn j hj
  exact loop 204 0 m0 (by omega) o0 g0 r0 (fun j hj => by omega) (fun j _ => q0 j)
/-! the sides behind an act -/
def actA (a : dA) (b : dIO) (s : dST) : dA := (b, a.2.1, s, a.2.2.2.1, a.2.2.2.2 + 1)
theorem CC_act {W : Nat → Nat → Prop} {u : Nat} {a : dA} {b : dIO} {s : dST} {M m : mm_M} (h : CC u a M) (hV : a.2.2.2.2 < 2 ^ 30) (ho : offA W M m) (hW : ∀ c j, W c j → k1 c j ∨ k5 c j ∨ k9 c j ∨ c = 31 ∨ c = 32 ∨ c = 33 ∨ c = 34 ∨ c = 35 ∨ c = 36 ∨ (c = 21 ∧ j = 4) ∨ (42 ≤ c ∧ c ≤ 46)) (hI : cIO b m) (hs : cST (700 * (u + 1)) s m) (h18 : m.1 0 18 = nI (a.2.2.2.2 + 1)) : CC (u + 1) (actA a b s) m := by
  obtain ⟨h1, h2, h3, h4, h5, h6⟩ := h
  have hr := Rl_at h2.2.2.2.1
  have r' : cRU a.2.1 m := cRU_off h2 ho (fun c j q z => by have := hW c j q; unfold k1 k5 k9 at this; omega)
  refine ⟨hI, r', hs, cSE_off h4 ho (fun c j q z => ?_), h18, cC_new h6 hV ho (fun c j q z => ?_)⟩
  · have := hW c j q; unfold k1 k5 k9 at this; omega
  · have := hW c j q; unfold k1 k5 k9 at this; omega
theorem MM_act {W : Nat → Nat → Prop} {a : dA} {b : dIO} {s : dST} {M m : mm_M} (h : MM a M) (ho : offA W M m) (hW : ∀ c j, W c j → ¬ (k4 c j ∨ k8 c j ∨ k10 c j)) (hI : mIO b m) (hs : mST s m) : MM (actA a b s) m := by
  obtain ⟨h1, h2, h3, h4, h5⟩ := h
  exact ⟨hI, mRU_off h2 ho (fun c j q z => hW c j q (Or.inl z)), hs, mSE_off h4 ho (fun c j q z => hW c j q (Or.inr (Or.inl z))), mID_off h5 ho (fun c j q z => hW c j q (Or.inr (Or.inr z)))⟩
theorem VV_act {u : Nat} {a : dA} {b : dIO} {s : dST} (h : VV u a) (hb : vIO b) (hs : vST a.2.1.2.1 s) : VV (u + 1) (actA a b s) := ⟨hb, h.2.1, hs, h.2.2.2.1, by have := h.2.2.2.2; show a.2.2.2.2 + 1 ≤ u + 1; omega⟩
theorem remA_v {U : dU} {a : dST} (h : vST U a) : ∀ s ∈ (remA a).2.2, vN U s.1 ∧ inI 0 999 s.1.1 ∧ vL s.2 := by
  intro s hs
  have hs : s ∈ ((a.1, a.2.1) :: a.2.2).take 20 := hs
  rcases List.mem_cons.mp (List.mem_of_mem_take hs) with rfl | hs
  · exact h.1
  · exact h.2 s hs
theorem vSup {U : dU} {N : dN} {h : Nat} {x : Int32} (vn : vN U N) (hx : inI 0 99 x) : vN U (N.1, N.2.1, setF N.2.2.1 h x, N.2.2.2.1, N.2.2.2.2) := ⟨vn.1, vn.2.1, setF_in vn.2.2.1 hx, vn.2.2.2⟩
/-! bring, feud, undo -/
def setFl (s : dST) (h : Nat) (x : Int32) : dST := ((s.1.1, s.1.2.1, setF s.1.2.2.1 h x, s.1.2.2.2.1, s.1.2.2.2.2), s.2)
theorem cST_N {B : Nat} {s : dST} {N : dN} {M m : mm_M} {W : Nat → Nat → Prop} (hS : cST B s M) (ho : offM W M m) (hW : ∀ c j, W c j → (37 ≤ c ∧ c ≤ 40) ∧ ¬ (c = 37 ∧ j = 2)) (hN : cN 37 N m) : cST B (N, s.2) m := by
  obtain ⟨h1, h2, h3, h4, p, h5, h6, h7⟩ := hS
  refine ⟨hN, cK_off h2 ho (fun c j q z => by have := hW c j q; omega), h3, by rw [ho.1 _ _ (fun q => by have := hW _ _ q; omega)]; exact h4, p, h5, by rw [ho.1 _ _ (fun q => by have := hW _ _ q; omega)]; exact h6, fun k x hx => ?_⟩
  have hm : (p + 19 - k) % 20 < 20 := Nat.mod_lt _ (by decide)
  have := h7 k x hx
  generalize (p + 19 - k) % 20 = i at hm this
  exact ⟨cN_off this.1 ho (fun c j q z => by have := hW c j q; unfold stc at z; omega), cK_off this.2 ho (fun c j q z => by have := hW c j q; unfold stc at z; omega)⟩
theorem mST_N {s : dST} {N : dN} {M m : mm_M} {W : Nat → Nat → Prop} (hS : mST s M) (ho : offM W M m) (hW : ∀ c j, W c j → c = 199 ∧ j < 43) (hN : mN N m) : mST (N, s.2) m := by
  obtain ⟨h1, h2, h3, p, h4, h5, h6⟩ := hS
  refine ⟨hN, mK_off h2 ho (fun c j q z => by have := hW c j q; omega), by rw [ho.1 _ _ (fun q => by have := hW _ _ q; omega)]; exact h3, p, h4, by rw [ho.1 _ _ (fun q => by have := hW _ _ q; omega)]; exact h5, fun k x hx => ?_⟩
  have := h6 k x hx
  have g : ∀ j, m.1 216 j = M.1 216 j := fun j => ho.1 _ _ (fun q => by have := hW _ _ q; omega)
  exact ⟨mN_eq this.1 (fun j _ => g _), mK_eq this.2 (fun j _ _ => g _)⟩
theorem s22 : lw_S22 Inv := by
  intro u M x1 x2 hu hG hI
  refine stepI hI (fun a hv hc hm => ?_)
  have vu := hv.2.1.1
  have vn := hv.2.2.1.1.1
  have hth := vN_lt vu vn
  have hV : a.2.2.2.2 < 2 ^ 30 := by have := hv.2.2.2.2; omega
  have e0 : (0 : Int64).toInt = 0 := rfl
  have e99 : (99 : Int64).toInt = 99 := rfl
  have z99 : (99 : Int32).toInt = 99 := rfl
  have t2 : (2 : Int32).toNatClampNeg = 2 := rfl
  by_cases ch : ∃ h, h < a.2.1.2.1.2.1 ∧ h < 7 ∧ x1 = nI h ∧ a.2.2.1.1.2.1.testBit h = true ∧ inI 0 99 x2 ∧ a.2.2.1.1.2.2.1 h ≠ x2
  · obtain ⟨h, hh, h7, rfl, ct, cx, cf⟩ := ch
    have ch : isH a.2.1.2.1.2.1 (nI h) := ⟨by rw [nI_toInt (by omega)]; omega, by rw [nI_toInt (by omega)]; omega⟩
    have vx := cx
    unfold inI at cx
    refine ⟨1, actA a a.1 (setFl (remA a.2.2.1) h x2), VV_act hv hv.1 ⟨⟨vSup vn vx, hv.2.2.1.1.2.1, hv.2.2.1.1.2.2⟩, remA_v hv.2.2.1⟩, ?_, fun m hGm hmm => ?_⟩
    · refine rX11_bring hG (c_isHouse hG hc.2.1 vu.2.1 (fun _ => ineg (by decide) (c_isThere st37 hG hc.2.2.1.1.2.1 hth h7 ?_)) (fun q => absurd ch q))
      rw [if_pos ct]
      refine ineg (by decide) (ineg (fun q => by have := lt0.mp q; omega) (ineg (fun q => by have := i32_lt.mp q; omega) ?_))
      have ef : M.1 38 h = a.2.2.1.1.2.2.1 h := hc.2.2.1.1.2.2.1 h h7
      rw [nI_clamp (by omega), ef]
      refine ⟨vp_in_nI h7 (by decide), ineg cf (c_beginAct hG (cST_le hc.2.2.1 (by omega : 700 * u ≤ 700 * (u + 1))) hc.2.2.2.2.1 (fun m1 o1 s1 g18 => ⟨vp_in_nI h7 (by decide), ?_⟩))⟩
      have o2 : offM (fun c j => c = 38) m1 (mm_uI m1 38 h x2) := offM_uI rfl
      have s2 : cST (700 * (u + 1)) (setFl (remA a.2.2.1) h x2) (mm_uI m1 38 h x2) := cST_N s1 o2 (fun c j q => by omega) (cN_uF s1.1)
      have o : offM (fun c j => wAct c j ∨ c = 38) M (mm_uI m1 38 h x2) := offM_tr (offM_mono o1 (fun c j q => Or.inl q)) (offM_mono o2 (fun c j q => Or.inr q))
      refine ⟨rfl, offA_of o (fun c j q => by unfold wAct wHi at q; unfold cl; omega), CC_act hc hV (offA_M o) (fun c j q => by unfold wAct wHi at q; unfold k1 k5 k9; omega) (cIO_off hc.1 (offA_M o) (fun c j q => by unfold wAct wHi at q; omega)) s2 ?_⟩
      rw [uI_c (by decide)]; exact g18
    · obtain ⟨d1, d2, d3, d4, d5⟩ := id hmm
      refine rX12_bring hGm (m_isHouseI hGm d2.2.1 vu.2.1 (fun _ => ineg (by decide) (m_isThere hGm d3.1 h7 ?_)) (fun q => absurd ch q))
      rw [if_pos ct]
      refine ineg (by decide) (m_isIn hGm (fun _ => ineg (by decide) (m_flourOf hGm d3.1 h7 (ineg cf ?_))) (fun q => by rw [i64_of, e0, e99] at q; exact absurd cx q))
      refine m_keeps hGm d3 hc.2.2.1.2.2.1 (fun m1 o1 s1 => ?_)
      rw [mx2 h (by omega), nI_clamp (by omega)]
      have o2 : offM (fun c j => c = 199 ∧ j < 43) m1 (mm_uI m1 199 (2 + 3 * h) x2) := offM_uI (by omega)
      have s2 : mST (setFl (remA a.2.2.1) h x2) (mm_uI m1 199 (2 + 3 * h) x2) := mST_N s1 o2 (fun c j q => q) (mN_uF s1.1 h7)
      have o : offM (fun c j => wKe c j ∨ (c = 199 ∧ j < 43)) m (mm_uI m1 199 (2 + 3 * h) x2) := offM_tr (offM_mono o1 (fun c j q => Or.inl q)) (offM_mono o2 (fun c j q => Or.inr q))
      exact ⟨vp_in_nI (by omega) (by decide), rfl, offA_of o (fun c j q => by unfold wKe at q; unfold ml; omega), MM_act hmm (offA_M o) (fun c j q z => by unfold wKe at q; unfold k4 k8 k10 at z; omega) (mIO_off d1 (offA_M o) (fun c j q => by unfold wKe at q; omega)) s2⟩
  · refine ⟨0, (refA a.1 2, a.2), VV_io hv (refA_v hv.1), ?_, fun m hGm hmm => ?_⟩
    · have bad : mm_CI mX11_refuse 899 [.ref 0, .int 2] M (fun z44 m44 => cQ u (refA a.1 2, a.2) 0 M 0 m44) := c_refuse (k := 2) hG hc.1 (by decide) (fun m1 o1 i1 => ⟨rfl, offA_of o1 (fun c j q => by unfold cl; omega), CC_io hc (offA_M o1) (fun c j q => by unfold k1; omega) i1⟩)
      refine rX11_bring hG (c_isHouse hG hc.2.1 vu.2.1 (fun qh => ineg (by decide) ?_) (fun q => ipos rfl bad))
      obtain ⟨h, hh, h7, rfl⟩ := isH_nI qh vu.2.1
      refine c_isThere st37 hG hc.2.2.1.1.2.1 hth h7 ?_
      by_cases ct : a.2.2.1.1.2.1.testBit h = true
      · rw [if_pos ct]
        have ef : M.1 38 h = a.2.2.1.1.2.2.1 h := hc.2.2.1.1.2.2.1 h h7
        rw [nI_clamp (by omega), ef]
        refine ineg (by decide) (ite_go (fun _ => bad) (fun c1 => ite_go (fun _ => bad) (fun c2 => ⟨vp_in_nI h7 (by decide), ite_go (fun _ => bad) (fun c3 => ?_)⟩)))
        refine absurd ⟨h, hh, h7, rfl, ct, ⟨?_, ?_⟩, c3⟩ ch
        · have := mt lt0.mpr c1; omega
        · have := mt i32_lt.mpr c2; omega
      · rw [if_neg ct]; exact ipos rfl bad
    · obtain ⟨o1, i1⟩ := m_refused hmm.1 (k := 2) (by decide)
      have bad : mm_CI mX12_isRefused 899 [.ref 164] m (fun z39 m39 => (z39 = 0 ∨ z39 = 1) ∧ mQ (refA a.1 2, a.2) 0 m z39 m39) := by
        refine rX12_isRefused hGm ?_
        rw [t2]
        exact ⟨Or.inl rfl, rfl, offA_of o1 (fun c j q => by unfold ml; omega), MM_io hmm (offA_M o1) (fun c j q => by unfold k2; omega) i1⟩
      refine rX12_bring hGm (m_isHouseI hGm hmm.2.1.2.1 vu.2.1 (fun qh => ineg (by decide) ?_) (fun q => ipos rfl bad))
      obtain ⟨h, hh, h7, rfl⟩ := isH_nI qh vu.2.1
      refine m_isThere hGm hmm.2.2.1.1 h7 ?_
      by_cases ct : a.2.2.1.1.2.1.testBit h = true
      · rw [if_pos ct]
        refine ineg (by decide) (m_isIn hGm (fun q => ineg (by decide) (m_flourOf hGm hmm.2.2.1.1 h7 (ite_go (fun _ => bad) (fun c3 => ?_)))) (fun q => ipos rfl bad))
        rw [i64_of, e0, e99] at q
        exact absurd ⟨h, hh, h7, rfl, ct, q, c3⟩ ch
      · rw [if_neg ct]; exact ipos rfl bad
