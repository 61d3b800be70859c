/-! ===== feed ===== -/
def byt (x : Int32) (k : Nat) : Int32 := nI (x.toBitVec.toNat / 2 ^ k % 256)
theorem byt_in (x : Int32) (k : Nat) : inI 0 255 (byt x k) := by
  unfold byt inI
  have : x.toBitVec.toNat / 2 ^ k % 256 < 256 := Nat.mod_lt _ (by decide)
  rw [nI_toInt (by omega)]
  omega
theorem byt_u (x s : Int32) (k : Nat) (hs : ((s.toUInt32 &&& Int32.toUInt32 31).toBitVec % 32).toNat = k) : ((x.toUInt32 >>> (s.toUInt32 &&& Int32.toUInt32 31)).toInt32 &&& 255) = byt x k := by
  rw [pk_and _ (m := 255) 8 (by decide), pk_ushr x s k hs]
  rfl
theorem tn_mod (y : Int32) : ((y.toBitVec.toNat % 256 : Nat) : Int) = y.toInt % 256 := by
  have h : y.toInt = if 2 * y.toBitVec.toNat < 2 ^ 32 then (y.toBitVec.toNat : Int) else (y.toBitVec.toNat : Int) - (2 ^ 32 : Nat) := BitVec.toInt_eq_toNat_cond y.toBitVec
  rw [h]
  by_cases c : 2 * y.toBitVec.toNat < 2 ^ 32
  · rw [if_pos c]; omega
  · rw [if_neg c]; omega
theorem byt_a (x s : Int32) (k : Nat) (hk : k = 0 ∨ k = 8 ∨ k = 16 ∨ k = 24) (hs : (s.toBitVec.smod 32).toNat = k) : ((x >>> s) &&& 255) = byt x k := by
  rw [pk_and _ (m := 255) 8 (by decide)]
  unfold byt
  congr 1
  have h1 := tn_mod (x >>> s)
  have h2 := pk_shr x s k hs
  have h : x.toInt = if 2 * x.toBitVec.toNat < 2 ^ 32 then (x.toBitVec.toNat : Int) else (x.toBitVec.toNat : Int) - (2 ^ 32 : Nat) := BitVec.toInt_eq_toNat_cond x.toBitVec
  rw [h2, Int.shiftRight_eq_div_pow] at h1
  show (x >>> s).toBitVec.toNat % 256 = _
  have hb : x.toBitVec.toNat < 2 ^ 32 := x.toBitVec.isLt
  generalize (x >>> s).toBitVec.toNat = A at h1
  generalize x.toBitVec.toNat = X at h hb
  rw [h] at h1
  rcases hk with rfl | rfl | rfl | rfl
  · by_cases c : 2 * X < 2 ^ 32
    · rw [if_pos c] at h1; simp only [Nat.pow_zero] at *; omega
    · rw [if_neg c] at h1; simp only [Nat.pow_zero] at *; omega
  · by_cases c : 2 * X < 2 ^ 32
    · rw [if_pos c] at h1; omega
    · rw [if_neg c] at h1; omega
  · by_cases c : 2 * X < 2 ^ 32
    · rw [if_pos c] at h1; omega
    · rw [if_neg c] at h1; omega
  · by_cases c : 2 * X < 2 ^ 32
    · rw [if_pos c] at h1; omega
    · rw [if_neg c] at h1; omega
theorem u8 : ∀ i, i < 4 → (((nI (24 - 8 * i)).toUInt32 &&& Int32.toUInt32 31).toBitVec % 32).toNat = 24 - 8 * i := by decide +kernel
theorem n8 : ∀ i, i < 4 → nI (32 - 8 * i) + (-8) = nI (24 - 8 * i) := by decide +kernel
def wTp (c j : Nat) : Prop := c = 1 ∨ (c = 0 ∧ j = 1)
theorem c_putOnTape {d L : Nat} {w : Int32} {M : mm_M} {K : mm_M → Prop} (hG : mm_G M.2.2) (h1 : M.1 0 1 = nI L) (hL : L + 4 ≤ 1600) (hK : ∀ m, offM wTp M m → m.1 0 1 = nI (L + 4) → (∀ j, m.1 1 j = if L ≤ j ∧ j < L + 4 then byt w (24 - 8 * (j - L)) else M.1 1 j) → K m) : mm_CV mX11_putOnTape d [.ref 0, .int w] M K := by
  refine rX11_putOnTape hG ?_
  have loop : ∀ (k i : Nat) (m : mm_M), i + k = 4 → offM wTp M m → m.1 0 1 = nI (L + i) → (∀ j, m.1 1 j = if L ≤ j ∧ j < L + i then byt w (24 - 8 * (j - L)) else M.1 1 j) → jX11_putOnTape_3 d w m K w (nI (32 - 8 * i) + (-8)) := by
    intro k
    induction k with
    | zero =>
      intro i m hi ho hl h
      obtain rfl : i = 4 := by omega
      exact lX11_putOnTape_3 (by rw [ho.2.2]; exact hG) (ipos (by decide) (hK m ho hl h))
    | succ k ih =>
      intro i m hi ho hl h
      have hi4 : i < 4 := by omega
      rw [n8 i hi4]
      refine lX11_putOnTape_3 (by rw [ho.2.2]; exact hG) (ineg (nI_pos (by omega)) ?_)
      rw [hl]
      refine ineg (nI_pos (by omega)) (ineg (nI_ge (by omega) (by decide)) ⟨vp_in_nI (by omega) (by decide), ?_⟩)
      rw [nI_clamp (by omega), byt_u w _ _ (u8 i hi4), uI_c (c := 0) (by decide), hl, nI_1, show 24 - 8 * i = 32 - 8 * (i + 1) by omega]
      refine ih (i + 1) _ (by omega) (offM_tr ho (offM_tr (offM_uI (Or.inl rfl)) (offM_uI (Or.inr ⟨rfl, rfl⟩)))) (uI_at _ _ _ _) (fun j => ?_)
      rw [uI_c (by decide)]
      by_cases c : j = L + i
      · subst c
        rw [uI_at, if_pos (by omega)]
        congr 1
        omega
      · rw [uI_j c, h j]
        by_cases c2 : L ≤ j ∧ j < L + i
        · rw [if_pos c2, if_pos (by omega)]
        · rw [if_neg c2, if_neg (by omega)]
  have e : (24 : Int32) = nI (32 - 8 * 0) + (-8) := by decide
  rw [e]
  exact loop 4 0 M (by omega) offM_rf h1 (fun j => by rw [if_neg (by omega)])
def wd (x1 x2 x3 x4 x5 : Int32) (q : Nat) : Int32 := if q < 4 then x1 else if q < 8 then x2 else if q < 12 then x3 else if q < 16 then x4 else x5
def fdA (a : dIO) (x1 x2 x3 x4 x5 : Int32) : dIO := (fun j => if a.2.1 ≤ j ∧ j < a.2.1 + 20 then byt (wd x1 x2 x3 x4 x5 (j - a.2.1)) (24 - 8 * ((j - a.2.1) % 4)) else a.1 j, a.2.1 + 20, a.2.2)
theorem fdA_v {a : dIO} {x1 x2 x3 x4 x5 : Int32} (h : vIO a) (hL : a.2.1 + 20 ≤ 1600) : vIO (fdA a x1 x2 x3 x4 x5) := by
  refine ⟨hL, fun j => ?_, h.2.2⟩
  show inI 0 255 (if a.2.1 ≤ j ∧ j < a.2.1 + 20 then byt (wd x1 x2 x3 x4 x5 (j - a.2.1)) (24 - 8 * ((j - a.2.1) % 4)) else a.1 j)
  by_cases c : a.2.1 ≤ j ∧ j < a.2.1 + 20
  · rw [if_pos c]; exact byt_in _ _
  · rw [if_neg c]; exact h.2.1 j
theorem sh20 : ∀ k, k < 20 → (((8 * (3 - (nI k - nI k / 4 * 4))) &&& 31).toBitVec.smod 32).toNat = 24 - 8 * (k % 4) := by decide +kernel
theorem s0 : lw_S0 Inv := by
  intro u M x1 x2 x3 x4 x5 hu hG hI
  refine stepI hI (fun a hv hc hm => ?_)
  have hL := hv.1.1
  have e20 : nI a.1.2.1 + 20 = nI (a.1.2.1 + 20) := nI_add _ 20
  by_cases c : a.1.2.1 + 20 ≤ 1600
  · refine ⟨nI (a.1.2.1 + 20), (fdA a.1 x1 x2 x3 x4 x5, a.2), VV_io hv (fdA_v hv.1 c), ?_, fun m hGm hmm => ?_⟩
    · refine rX11_feed hG ?_
      rw [hc.1.2.1, e20]
      refine ipos (nI_le (b := 1600) c (by decide)) ?_
      refine c_putOnTape hG hc.1.2.1 (by omega) (fun m1 o1 l1 t1 => ?_)
      refine c_putOnTape (by rw [o1.2.2]; exact hG) l1 (by omega) (fun m2 o2 l2 t2 => ?_)
      refine c_putOnTape (by rw [o2.2.2, o1.2.2]; exact hG) l2 (by omega) (fun m3 o3 l3 t3 => ?_)
      refine c_putOnTape (by rw [o3.2.2, o2.2.2, o1.2.2]; exact hG) l3 (by omega) (fun m4 o4 l4 t4 => ?_)
      refine c_putOnTape (by rw [o4.2.2, o3.2.2, o2.2.2, o1.2.2]; exact hG) l4 (by omega) (fun m5 o5 l5 t5 => ?_)
      have o : offM wTp M m5 := offM_tr (offM_tr (offM_tr (offM_tr o1 o2) o3) o4) o5
      have l5 : m5.1 0 1 = nI (a.1.2.1 + 20) := l5
      refine ⟨l5, offA_of o (fun c j q => by unfold wTp at q; unfold cl; omega), CC_io hc (offA_M o) (fun c j q => by unfold wTp at q; unfold k1; omega) ?_⟩
      obtain ⟨h1, h2, h3, h4, h5, h6, h7, h8⟩ := hc.1
      refine ⟨fun j hj => ?_, l5, fun j hj => by rw [o.1 _ _ (by unfold wTp; omega)]; exact h3 j hj, by rw [o.1 _ _ (by unfold wTp; omega)]; exact h4, by rw [o.1 _ _ (by unfold wTp; omega)]; exact h5, by rw [o.1 _ _ (by unfold wTp; omega)]; exact h6, fun j hj => by rw [o.1 _ _ (by unfold wTp; omega)]; exact h7 j hj, by rw [o.1 _ _ (by unfold wTp; omega)]; exact h8⟩
      show _ = if a.1.2.1 ≤ j ∧ j < a.1.2.1 + 20 then byt (wd x1 x2 x3 x4 x5 (j - a.1.2.1)) (24 - 8 * ((j - a.1.2.1) % 4)) else a.1.1 j
      rw [t5, t4, t3, t2, t1, h1 j hj]
      unfold wd
      generalize a.1.2.1 = L at *
      by_cases d5 : L + 4 + 4 + 4 + 4 ≤ j ∧ j < L + 4 + 4 + 4 + 4 + 4
      · rw [if_pos d5, if_pos (by omega), if_neg (by omega), if_neg (by omega), if_neg (by omega), if_neg (by omega)]
        congr 1; omega
      rw [if_neg d5]
      by_cases d4 : L + 4 + 4 + 4 ≤ j ∧ j < L + 4 + 4 + 4 + 4
      · rw [if_pos d4, if_pos (by omega), if_neg (by omega), if_neg (by omega), if_neg (by omega), if_pos (by omega)]
        congr 1; omega
      rw [if_neg d4]
      by_cases d3 : L + 4 + 4 ≤ j ∧ j < L + 4 + 4 + 4
      · rw [if_pos d3, if_pos (by omega), if_neg (by omega), if_neg (by omega), if_pos (by omega)]
        congr 1; omega
      rw [if_neg d3]
      by_cases d2 : L + 4 ≤ j ∧ j < L + 4 + 4
      · rw [if_pos d2, if_pos (by omega), if_neg (by omega), if_pos (by omega)]
        congr 1; omega
      rw [if_neg d2]
      by_cases d1 : L ≤ j ∧ j < L + 4
      · rw [if_pos d1, if_pos (by omega), if_pos (by omega)]
        congr 1; omega
      rw [if_neg d1, if_neg (by omega)]
    · refine rX12_feed hGm ?_
      rw [hmm.1.2.1, e20]
      refine ipos (nI_le (b := 1600) c (by decide)) ?_
      have loop : ∀ (k i : Nat) (m1 : mm_M), i + k = 20 → offM (fun c j => c = 165 ∨ (c = 164 ∧ j = 1)) m m1 → m1.1 164 1 = nI (a.1.2.1 + i) → (∀ j, m1.1 165 j = if a.1.2.1 ≤ j ∧ j < a.1.2.1 + i then byt (wd x1 x2 x3 x4 x5 (j - a.1.2.1)) (24 - 8 * ((j - a.1.2.1) % 4)) else m.1 165 j) → jX12_feed_28 900 x1 x2 x3 x4 x5 m1 (mQ (fdA a.1 x1 x2 x3 x4 x5, a.2) (nI (a.1.2.1 + 20)) m) x1 x2 x3 x4 x5 (nI i) := by
        intro k
        induction k with
        | zero =>
          intro i m1 hi o l t
          obtain rfl : i = 20 := by omega
          refine lX12_feed_28 (by rw [o.2.2]; exact hGm) (ipos (by decide) ⟨l, offA_of o (fun c j q => by unfold ml; omega), MM_io hmm (offA_M o) (fun c j q => by unfold k2; omega) ?_⟩)
          obtain ⟨h1, h2, h3, h4, h5, h6, h7, h8⟩ := hmm.1
          refine ⟨fun j hj => ?_, l, fun j hj => by rw [o.1 _ _ (by omega)]; exact h3 j hj, by rw [o.1 _ _ (by omega)]; exact h4, by rw [o.1 _ _ (by omega)]; exact h5, by rw [o.2.1 _ _ (by omega)]; exact h6, fun j hj => by rw [o.1 _ _ (by omega)]; exact h7 j hj, by rw [o.1 _ _ (by omega)]; exact h8⟩
          rw [t, h1 j hj]
          rfl
        | succ k ih =>
          intro i m1 hi o l t
          have hGm1 : mm_G m1.2.2 := by rw [o.2.2]; exact hGm
          have put : ∀ w : Int32, w = wd x1 x2 x3 x4 x5 i → jX12_feed_81 900 x1 x2 x3 x4 x5 m1 (mQ (fdA a.1 x1 x2 x3 x4 x5, a.2) (nI (a.1.2.1 + 20)) m) x1 x2 x3 x4 x5 (nI i) w := by
            intro w hw
            refine lX12_feed_81 hGm1 ?_
            rw [l, nI_clamp (by omega), byt_a w _ _ (by omega) (sh20 i (by omega)), uI_c (c := 164) (by decide), l, nI_1, nI_1]
            refine ⟨vp_in_nI (by omega) (by decide), ih (i + 1) _ (by omega) (offM_tr o (offM_tr (offM_uI (Or.inl rfl)) (offM_uI (Or.inr ⟨rfl, rfl⟩)))) (uI_at _ _ _ _) (fun j => ?_)⟩
            rw [uI_c (by decide)]
            by_cases c : j = a.1.2.1 + i
            · subst c
              rw [uI_at, if_pos (by omega), Nat.add_sub_cancel_left, hw]
            · rw [uI_j c, t j]
              by_cases c2 : a.1.2.1 ≤ j ∧ j < a.1.2.1 + i
              · rw [if_pos c2, if_pos (by omega)]
              · rw [if_neg c2, if_neg (by omega)]
          refine lX12_feed_28 hGm1 (ineg (nI_ge (b := 20) (by omega) (by decide)) ?_)
          by_cases b4 : 4 ≤ i
          · refine ipos (nI_le (a := 4) b4 (by omega)) ?_
            by_cases b8 : 8 ≤ i
            · refine ipos (nI_le (a := 8) b8 (by omega)) ?_
              by_cases b12 : 12 ≤ i
              · refine ipos (nI_le (a := 12) b12 (by omega)) ?_
                by_cases b16 : 16 ≤ i
                · exact ipos (nI_le (a := 16) b16 (by omega)) (put _ (by unfold wd; rw [if_neg (by omega), if_neg (by omega), if_neg (by omega), if_neg (by omega)]))
                · exact ineg (nI_ge (b := 16) (by omega) (by decide)) (put _ (by unfold wd; rw [if_neg (by omega), if_neg (by omega), if_neg (by omega), if_pos (by omega)]))
              · exact ineg (nI_ge (b := 12) (by omega) (by decide)) (put _ (by unfold wd; rw [if_neg (by omega), if_neg (by omega), if_pos (by omega)]))
            · exact ineg (nI_ge (b := 8) (by omega) (by decide)) (put _ (by unfold wd; rw [if_neg (by omega), if_pos (by omega)]))
          · exact ineg (nI_ge (b := 4) (by omega) (by decide)) (put _ (by unfold wd; rw [if_pos (by omega)]))
      exact loop 20 0 m (by omega) offM_rf hmm.1.2.1 (fun j => by rw [if_neg (by omega)])
  · refine ⟨-1, (refA a.1 0, a.2), VV_io hv (refA_v hv.1), ?_, fun m hGm hmm => ?_⟩
    · refine rX11_feed hG ?_
      rw [hc.1.2.1, e20]
      refine ineg (nI_ge (a := 1600) (by omega) (by omega)) ?_
      exact c_refuse (k := 0) hG hc.1 (by decide) (fun m1 o1 i1 => ⟨rfl, offA_of o1 (fun c j q => by unfold cl; omega), CC_io hc (offA_M o1) (fun c j q => by unfold k1; omega) i1⟩)
    · refine rX12_feed hGm ?_
      have t0 : (0 : Int32).toNatClampNeg = 0 := rfl
      obtain ⟨o1, i1⟩ := m_refused hmm.1 (k := 0) (by decide)
      rw [hmm.1.2.1, e20, t0]
      exact ineg (nI_ge (a := 1600) (by omega) (by omega)) ⟨rfl, offA_of o1 (fun c j q => by unfold ml; omega), MM_io hmm (offA_M o1) (fun c j q => by unfold k2; omega) i1⟩
