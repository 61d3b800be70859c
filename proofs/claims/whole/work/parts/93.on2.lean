/-! ===== readImage; on ===== -/
theorem bit_sh : ∀ b, b < 128 → ∀ h, h < 7 → (nI b ||| ((0 : Int32) <<< (nI h &&& 31))) = nI b := by decide +kernel
def wRi (c j : Nat) : Prop := c = 38 ∨ c = 39 ∨ c = 40 ∨ (c = 37 ∧ j < 3)
theorem c_readImage {d hs L : Nat} {f : Nat → Int32} {U : dU} {N : dN} {M : mm_M} {K : mm_M → Prop} (hG : mm_G M.2.2) (hN : cN 37 N M) (hf : ∀ j, j < 1600 → M.1 1 j = f j) (hb : ∀ j, inI 0 255 (f j)) (h8 : hs < 8) (hI : isImg f L hs) (hK : ∀ m, offM wRi M m → cN 37 (onN f N hs) m → m.1 37 2 = 0 → K m) : mm_CV mX9_readImage (d + 1) [.ref 37, .ref 1, .int (nI hs)] M K := by
  obtain ⟨i1, i2, i3, i4, i5⟩ := hI
  obtain ⟨l1, l2, l3, l4⟩ := ilen_le hs h8
  have hr : mm_SH[1]? = some (0, 1600) := rfl
  have t0 : (0 : Int32).toNatClampNeg = 0 := rfl
  have t1 : (1 : Int32).toNatClampNeg = 1 := rfl
  refine rX9_readImage st37 hr hG (rX9_imageLength hG ?_)
  rw [l4]
  refine ineg (nI_nlt (by omega) (by decide)) (ipos (nI_le (b := 7) (by omega) (by decide)) ⟨vp_in_nI (n := 0) (by decide) (by decide), vp_in_nI (n := 1) (by decide) (by decide), ?_⟩)
  rw [t0, t1, hf 0 (by decide), hf 1 (by decide)]
  have rd : ∀ m, offM wRi M m → ∀ j, j < 1600 → m.1 1 j = f j := fun m o j hj => by rw [o.1 _ _ (by unfold wRi; omega)]; exact hf j hj
  have rowL : ∀ (k p q : Nat) (m : mm_M), q + k = hs → p < q → p < hs → offM wRi M m → m.1 37 2 = 0 → cN 37 (onY f N hs p q) m → (∀ m', offM wRi M m' → m'.1 37 2 = 0 → cN 37 (onY f N hs p hs) m' → jX9_readImage_103 d 37 1 1600 (nI hs) m' K (nI hs) (nI (rwI hs (p + 1))) (nI (p + 1))) → jX9_readImage_115 d 37 1 1600 (nI hs) m K (nI hs) (nI (poI hs p q)) (nI p) (nI q) := by
    intro k
    induction k with
    | zero =>
      intro p q m hq hpq hp ho h2 hY hk
      obtain rfl : q = hs := by omega
      refine lX9_readImage_115 st37 hr (by rw [ho.2.2]; exact hG) (ipos (nI_le (Nat.le_refl _) (by omega)) ?_)
      rw [(rwI_end q h8 p hp).1, nI_1]
      exact hk m ho h2 hY
    | succ k ih =>
      intro p q m hq hpq hp ho h2 hY hk
      obtain ⟨e1, e2, e3⟩ := prsI_at hs h8 p hp q (by omega) hpq
      have ep : poI hs p q + 1 = poI hs p (q + 1) := by unfold poI; omega
      have hGm : mm_G m.2.2 := by rw [ho.2.2]; exact hG
      refine lX9_readImage_115 st37 hr hGm (ineg (nI_ge (by omega) (by omega)) ?_)
      rw [nI_clamp (by omega), rd m ho _ (by omega), nI_1, nI_1, ep]
      refine ⟨vp_in_nI (by omega) (by decide), c_setHate st37 hGm hY (by omega) (by omega) (fun m1 o1 n1 => ?_)⟩
      refine ih p (q + 1) m1 (by omega) (by omega) hp (offM_tr ho (offM_mono o1 (fun c j q => by unfold wH at q; unfold wRi; omega))) (by rw [o1.1 _ _ (by unfold wH; omega)]; exact h2) (cN_ext n1 rfl rfl (fun _ _ => rfl) (fun _ _ => rfl) (fun a b _ _ => (onY_set hpq (by omega) a b).symm)) hk
  have rows : ∀ (k p : Nat) (m : mm_M), p + k = hs → offM wRi M m → m.1 37 2 = 0 → cN 37 (onY f N hs p 0) m → jX9_readImage_103 d 37 1 1600 (nI hs) m K (nI hs) (nI (rwI hs p)) (nI p) := by
    intro k
    induction k with
    | zero =>
      intro p m hp ho h2 hY
      obtain rfl : p = hs := by omega
      exact lX9_readImage_103 st37 hr (by rw [ho.2.2]; exact hG) (ipos (nI_le (Nat.le_refl _) (by omega)) (hK m ho hY h2))
    | succ k ih =>
      intro p m hp ho h2 hY
      refine lX9_readImage_103 st37 hr (by rw [ho.2.2]; exact hG) (ineg (nI_ge (by omega) (by omega)) ?_)
      rw [nI_1, ← (rwI_end hs h8 p (by omega)).2]
      refine rowL (hs - (p + 1)) p (p + 1) m (by omega) (by omega) (by omega) ho h2 (cN_ext hY rfl rfl (fun _ _ => rfl) (fun _ _ => rfl) (fun a b _ _ => onY_q (Nat.le_refl _) (by omega) a b)) (fun m' o' h2' hY' => ih (p + 1) m' (by omega) o' h2' ?_)
      exact cN_ext hY' rfl rfl (fun _ _ => rfl) (fun _ _ => rfl) (fun a b _ _ => (onY_q (by omega) (Nat.le_refl _) a b).trans (onY_row a b).symm)
  have first : ∀ (k i : Nat) (m : mm_M), i + k = hs → offM wRi M m → m.1 37 2 = 0 → cN 37 (onX f N i) m → jX9_readImage_46 d 37 1 1600 (nI hs) m K (nI hs) (nI (2 + 3 * i)) (nI i) := by
    intro k
    induction k with
    | zero =>
      intro i m hi ho h2 hX
      obtain rfl : i = hs := by omega
      refine lX9_readImage_46 st37 hr (by rw [ho.2.2]; exact hG) (ipos (nI_le (Nat.le_refl _) (by omega)) ?_)
      exact rows i 0 m (by omega) ho h2 (cN_ext hX rfl rfl (fun _ _ => rfl) (fun _ _ => rfl) (fun a b _ _ => onY_0 (by omega) a b))
    | succ k ih =>
      intro i m hi ho h2 hX
      obtain ⟨a1, a2, a3, a4⟩ := a3x i
      have hGm : mm_G m.2.2 := by rw [ho.2.2]; exact hG
      have hlt : thN f i < 128 := Nat.lt_of_lt_of_le (thN_lt f i) (Nat.pow_le_pow_right (by decide) (by omega) : 2 ^ i ≤ 2 ^ 7)
      refine lX9_readImage_46 st37 hr hGm (ineg (nI_ge (by omega) (by omega)) ?_)
      rw [a2, a3, a4, nI_clamp (n := 2 + 3 * i) (by omega), nI_clamp (n := 3 + 3 * i) (by omega), nI_clamp (n := 4 + 3 * i) (by omega), nI_clamp (n := i) (by omega), uI_c (c := 1) (by decide), uI_c (c := 1) (by decide), uI_c (c := 1) (by decide), rd m ho _ (by omega), rd m ho _ (by omega), rd m ho _ (by omega), hX.2.1, nI_1]
      refine ⟨vp_in_nI (by omega) (by decide), vp_in_nI (by omega) (by decide), vp_in_nI (by omega) (by decide), vp_in_nI (by omega) (by decide), vp_in_nI (by omega) (by decide), ?_⟩
      have eor : (nI (onX f N i).2.1 ||| (f (2 + 3 * i) <<< (nI i &&& 31))) = nI (thN f (i + 1)) := by
        show (nI (thN f i) ||| (f (2 + 3 * i) <<< (nI i &&& 31))) = nI (thN f i ||| (if f (2 + 3 * i) = 1 then 2 ^ i else 0))
        have h01 : f (2 + 3 * i) = 0 ∨ f (2 + 3 * i) = 1 := by
          have h1 := (i4 i (by omega)).1
          have h2 := hb (2 + 3 * i)
          unfold inI at h2
          have : (f (2 + 3 * i)).toInt = 0 ∨ (f (2 + 3 * i)).toInt = 1 := by omega
          rcases this with h | h
          · exact Or.inl (i32_eq.mpr h)
          · exact Or.inr (i32_eq.mpr h)
        rcases h01 with h | h
        · rw [h, bit_sh _ hlt i (by omega), if_neg (by decide), Nat.or_zero]
        · rw [h, (bit_or _ hlt i (by omega)).1, if_pos rfl]
      rw [eor]
      have s1 : cN 37 ((onX f N i).1, thN f (i + 1), (onX f N i).2.2) (mm_uI m 37 1 (nI (thN f (i + 1)))) := by
        obtain ⟨q1, q2, q3, q4, q5⟩ := hX
        exact ⟨by rw [uI_j (by decide)]; exact q1, uI_at _ _ _ _, fun h hh => by rw [uI_c (by decide)]; exact q3 h hh, fun h hh => by rw [uI_c (by decide)]; exact q4 h hh, fun h k hh hk => by rw [uI_c (by decide)]; exact q5 h k hh hk⟩
      have s2 := cN_uF (h := i) (x := f (3 + 3 * i)) s1
      have s3 := cN_uH (h := i) (x := f (4 + 3 * i)) s2
      refine ih (i + 1) _ (by omega) (offM_tr ho (offM_tr (offM_tr (offM_uI (by unfold wRi; omega)) (offM_uI (by unfold wRi; omega))) (offM_uI (by unfold wRi; omega)))) ?_ ?_
      · rw [uI_c (by decide), uI_c (by decide), uI_j (by decide)]; exact h2
      · refine cN_ext s3 rfl rfl (fun h hh => ?_) (fun h hh => ?_) (fun _ _ _ _ => rfl)
        · show (if h < i + 1 then f (3 + 3 * h) else N.2.2.1 h) = (if h = i then f (3 + 3 * i) else (if h < i then f (3 + 3 * h) else N.2.2.1 h))
          by_cases c : h = i
          · subst c; rw [if_pos (by omega), if_pos rfl]
          · rw [if_neg c]
            by_cases c2 : h < i
            · rw [if_pos c2, if_pos (by omega)]
            · rw [if_neg c2, if_neg (by omega)]
        · show (if h < i + 1 then f (4 + 3 * h) else N.2.2.2.1 h) = (if h = i then f (4 + 3 * i) else (if h < i then f (4 + 3 * h) else N.2.2.2.1 h))
          by_cases c : h = i
          · subst c; rw [if_pos (by omega), if_pos rfl]
          · rw [if_neg c]
            by_cases c2 : h < i
            · rw [if_pos c2, if_pos (by omega)]
            · rw [if_neg c2, if_neg (by omega)]
  refine first hs 0 _ (by omega) (offM_tr (offM_tr (offM_uI (by unfold wRi; omega)) (offM_uI (by unfold wRi; omega))) (offM_uI (by unfold wRi; omega))) (uI_at _ _ _ _) ?_
  obtain ⟨q1, q2, q3, q4, q5⟩ := hN
  exact ⟨by rw [uI_j (by decide), uI_j (by decide), uI_at]; rfl, by rw [uI_j (by decide), uI_at]; rfl, fun h hh => by rw [uI_c (by decide), uI_c (by decide), uI_c (by decide)]; exact q3 h hh, fun h hh => by rw [uI_c (by decide), uI_c (by decide), uI_c (by decide)]; exact q4 h hh, fun h k hh hk => by rw [uI_c (by decide), uI_c (by decide), uI_c (by decide)]; exact q5 h k hh hk⟩
theorem m_onTold {d hs L : Nat} {f : Nat → Int32} {U : dU} {N : dN} {M : mm_M} {K : Int32 → mm_M → Prop} (hG : mm_G M.2.2) (hN : mN N M) (vn : vN U N) (hhs : U.2.1 = hs) (hf : ∀ j, j < 1600 → M.1 165 j = f j) (hb : ∀ j, inI 0 255 (f j)) (h8 : hs < 8) (hI : isImg f L hs) (hK : ∀ m, offM (fun c j => c = 199 ∧ j < 43) M m → mN (onN f N hs) m → K 1 (mm_uI (mm_uI m 199 43 0) 164 79 0)) : jX12_on_60 d (mm_uI M 199 0 (256 * f 0 + f 1)) K (nI hs) 0 := by
  obtain ⟨i1, i2, i3, i4, i5⟩ := hI
  obtain ⟨l1, l2, l3, l4⟩ := ilen_le hs h8
  have t43 : (43 : Int32).toNatClampNeg = 43 := rfl
  have eday : 256 * f 0 + f 1 = f 0 * 256 + f 1 := i32_eq.mpr ((byte2 (hb 0) (hb 1)).2.trans (byte2 (hb 0) (hb 1)).1.symm)
  have rd : ∀ m, offM (fun c j => c = 199 ∧ j < 43) M m → ∀ j, j < 1600 → m.1 165 j = f j := fun m o j hj => by rw [o.1 _ _ (by omega)]; exact hf j hj
  have rowL : ∀ (k p q : Nat) (m : mm_M), q + k = hs → p < q → p < hs → offM (fun c j => c = 199 ∧ j < 43) M m → mN (onY f N hs p q) m → (∀ m', offM (fun c j => c = 199 ∧ j < 43) M m' → mN (onY f N hs p hs) m' → jX12_on_98 d m' K (nI hs) (nI (rwI hs (p + 1))) (nI (p + 1))) → jX12_on_110 d m K (nI hs) (nI (poI hs p q)) (nI p) (nI q) := by
    intro k
    induction k with
    | zero =>
      intro p q m hq hpq hp ho hY hk
      obtain rfl : q = hs := by omega
      refine lX12_on_110 (by rw [ho.2.2]; exact hG) (ipos (nI_le (Nat.le_refl _) (by omega)) ?_)
      rw [(rwI_end q h8 p hp).1, nI_1]
      exact hk m ho hY
    | succ k ih =>
      intro p q m hq hpq hp ho hY hk
      obtain ⟨e1, e2, e3⟩ := prsI_at hs h8 p hp q (by omega) hpq
      have ep : poI hs p q + 1 = poI hs p (q + 1) := by unfold poI; omega
      have hGm : mm_G m.2.2 := by rw [ho.2.2]; exact hG
      have hpl := pr_lt p (by omega) q (by omega) (by omega)
      refine lX12_on_110 hGm (ineg (nI_ge (by omega) (by omega)) (m_pairOf hGm (by omega) (by omega) (by omega) ?_))
      rw [n22, nI_clamp (n := 22 + pr p q) (by omega), nI_clamp (n := poI hs p q) (by omega), rd m ho _ (by omega), nI_1, nI_1, ep]
      refine ⟨vp_in_nI (by omega) (by decide), vp_in_nI (by omega) (by decide), ?_⟩
      have n1 := mN_uP (x := f (poI hs p q)) hY (show p < 7 by omega) (show q < 7 by omega) (show p ≠ q by omega)
      refine ih p (q + 1) _ (by omega) (by omega) hp (offM_tr ho (offM_uI (by omega))) (mN_ext n1 rfl rfl (fun _ _ => rfl) (fun _ _ => rfl) (fun a b _ _ _ => (onY_set hpq (by omega) a b).symm)) hk
  have rows : ∀ (k p : Nat) (m : mm_M), p + k = hs → offM (fun c j => c = 199 ∧ j < 43) M m → mN (onY f N hs p 0) m → jX12_on_98 d m K (nI hs) (nI (rwI hs p)) (nI p) := by
    intro k
    induction k with
    | zero =>
      intro p m hp ho hY
      obtain rfl : p = hs := by omega
      refine lX12_on_98 (by rw [ho.2.2]; exact hG) (ipos (nI_le (Nat.le_refl _) (by omega)) ?_)
      rw [t43]
      exact hK m ho hY
    | succ k ih =>
      intro p m hp ho hY
      refine lX12_on_98 (by rw [ho.2.2]; exact hG) (ineg (nI_ge (by omega) (by omega)) ?_)
      rw [nI_1, ← (rwI_end hs h8 p (by omega)).2]
      refine rowL (hs - (p + 1)) p (p + 1) m (by omega) (by omega) (by omega) ho (mN_ext hY rfl rfl (fun _ _ => rfl) (fun _ _ => rfl) (fun a b _ _ _ => onY_q (Nat.le_refl _) (by omega) a b)) (fun m' o' hY' => ih (p + 1) m' (by omega) o' ?_)
      exact mN_ext hY' rfl rfl (fun _ _ => rfl) (fun _ _ => rfl) (fun a b _ _ _ => (onY_q (by omega) (Nat.le_refl _) a b).trans (onY_row a b).symm)
  have first : ∀ (k i : Nat) (m : mm_M), i + k = 3 * hs → offM (fun c j => c = 199 ∧ j < 43) M m → m.1 199 0 = f 0 * 256 + f 1 → (∀ j, j < 42 → m.1 199 (1 + j) = if j < i then f (2 + j) else M.1 199 (1 + j)) → jX12_on_60 d m K (nI hs) (nI i) := by
    intro k
    induction k with
    | zero =>
      intro i m hi ho h0 hc
      obtain rfl : i = 3 * hs := by omega
      have e3 : 3 * nI hs = nI (3 * hs) := pk_mul 3 hs
      refine lX12_on_60 (by rw [ho.2.2]; exact hG) (ipos (by rw [e3]; exact nI_le (Nat.le_refl _) (by omega)) ?_)
      rw [(a3x hs).1]
      refine rows hs 0 m (by omega) ho ?_
      obtain ⟨q1, q2, q3, q4, q5⟩ := hN
      refine ⟨h0, fun h hh => ?_, fun h hh => ?_, fun h hh => ?_, fun a b ha hb' hab => ?_⟩
      · rw [hc (3 * h) (by omega)]
        show _ = if (thN f hs).testBit h then 1 else 0
        rw [thN_bit]
        by_cases c : h < hs
        · rw [if_pos (by omega)]
          have h01 : f (2 + 3 * h) = 0 ∨ f (2 + 3 * h) = 1 := by
            have h1 := (i4 h c).1
            have h2 := hb (2 + 3 * h)
            unfold inI at h2
            have : (f (2 + 3 * h)).toInt = 0 ∨ (f (2 + 3 * h)).toInt = 1 := by omega
            rcases this with h | h
            · exact Or.inl (i32_eq.mpr h)
            · exact Or.inr (i32_eq.mpr h)
          rcases h01 with e | e
          · rw [e]; simp [c]
          · rw [e]; simp [c]
        · rw [if_neg (by omega), q2 h hh, if_neg (fun z => by have := bit_lt vn z; omega)]
          simp [c]
      · rw [show 2 + 3 * h = 1 + (1 + 3 * h) by omega, hc (1 + 3 * h) (by omega)]
        show _ = if h < hs then f (3 + 3 * h) else N.2.2.1 h
        by_cases c : h < hs
        · rw [if_pos (by omega), if_pos c]; congr 1; omega
        · rw [if_neg (by omega), if_neg c, show 1 + (1 + 3 * h) = 2 + 3 * h by omega]; exact q3 h hh
      · rw [show 3 + 3 * h = 1 + (2 + 3 * h) by omega, hc (2 + 3 * h) (by omega)]
        show _ = if h < hs then f (4 + 3 * h) else N.2.2.2.1 h
        by_cases c : h < hs
        · rw [if_pos (by omega), if_pos c]; congr 1; omega
        · rw [if_neg (by omega), if_neg c, show 1 + (2 + 3 * h) = 3 + 3 * h by omega]; exact q4 h hh
      · have hpl := pr_lt a ha b hb' hab
        rw [show 22 + pr a b = 1 + (21 + pr a b) by omega, hc (21 + pr a b) (by omega), if_neg (by omega), show 1 + (21 + pr a b) = 22 + pr a b by omega, onY_0 (by omega)]
        exact q5 a b ha hb' hab
    | succ k ih =>
      intro i m hi ho h0 hc
      have e3 : 3 * nI hs = nI (3 * hs) := pk_mul 3 hs
      have e1 : (1 : Int32) + nI i = nI (1 + i) := nI_add 1 i
      have e2 : (2 : Int32) + nI i = nI (2 + i) := nI_add 2 i
      refine lX12_on_60 (by rw [ho.2.2]; exact hG) (ineg (by rw [e3]; exact nI_ge (by omega) (by omega)) ?_)
      rw [e1, e2, nI_clamp (n := 1 + i) (by omega), nI_clamp (n := 2 + i) (by omega), rd m ho _ (by omega), nI_1]
      refine ⟨vp_in_nI (by omega) (by decide), vp_in_nI (by omega) (by decide), ih (i + 1) _ (by omega) (offM_tr ho (offM_uI (by omega))) (by rw [uI_j (by omega)]; exact h0) (fun j hj => ?_)⟩
      by_cases c : j = i
      · subst c; rw [uI_at, if_pos (by omega)]
      · rw [uI_j (by omega), hc j hj]
        by_cases c2 : j < i
        · rw [if_pos c2, if_pos (by omega)]
        · rw [if_neg c2, if_neg (by omega)]
  rw [eday]
  exact first (3 * hs) 0 _ (by omega) (offM_uI (by omega)) (uI_at _ _ _ _) (fun j hj => by rw [uI_j (by omega), if_neg (by omega)])
theorem s30 : lw_S30 Inv := by
  intro u M hu hG hI
  refine stepI hI (fun a hv hc hm => ?_)
  have vu := hv.2.1.1
  have vn := hv.2.2.1.1.1
  have h8 : a.2.1.2.1.2.1 < 8 := by have := vu.2.1; omega
  have hL := hv.1.1
  have hb := hv.1.2.1
  have hV : a.2.2.2.2 < 2 ^ 30 := by have := hv.2.2.2.2; omega
  have t0 : (0 : Int32).toNatClampNeg = 0 := rfl
  have t1 : (1 : Int32).toNatClampNeg = 1 := rfl
  have t5 : (5 : Int32).toNatClampNeg = 5 := rfl
  have o1 : offM (fun c j => c = 0 ∧ j = 1) M (mm_uI M 0 1 0) := offM_uI ⟨rfl, rfl⟩
  have i1 : cIO (lenA a.1 0) (mm_uI M 0 1 0) := cIO_len hc.1
  have r1 : cRU a.2.1 (mm_uI M 0 1 0) := cRU_off hc.2.1 (offA_M o1) (fun c j q => by have := Rl_at hc.2.1.2.2.2.1; omega)
  by_cases ck : a.2.1.1 = true ∧ isImg a.1.1 a.1.2.1 a.2.1.2.1.2.1
  · obtain ⟨hdu, hImg⟩ := ck
    obtain ⟨vn', vd'⟩ := onN_v vu vn hb hImg
    refine ⟨1, actA a (lenA a.1 0) (onN a.1.1 a.2.2.1.1 a.2.1.2.1.2.1, [], []), VV_act hv ⟨Nat.zero_le _, hv.1.2⟩ ⟨⟨vn', vd', fun q hq => by cases hq⟩, fun s hs => by cases hs⟩, ?_, fun m hGm hmm => ?_⟩
    · refine rX11_on hG (rX11_takeTape hG ?_)
      rw [hc.1.2.1]
      generalize mm_uI M 0 1 0 = m1 at o1 i1 r1 ⊢
      have hG1 : mm_G m1.2.2 := by rw [o1.2.2]; exact hG
      refine c_hasDuchy hG1 r1 (fun _ => ineg (by decide) ⟨_, r1.1, r1.2.2.2.1, ?_⟩) (fun q => absurd hdu q)
      rw [r1.2.2.2.2.2.2.1]
      refine c_isImage hG1 i1.1 hb hL h8 (fun _ => ineg (by decide) ⟨_, r1.1, r1.2.2.2.1, ?_⟩) (fun z => absurd hImg z)
      rw [r1.2.2.2.2.2.2.1]
      have s1 := cST_off (cST_le hc.2.2.1 (by omega : 700 * u ≤ 700 * (u + 1))) (offA_M o1) (fun c j q => by omega)
      refine c_readImage (U := a.2.1.2.1) hG1 s1.1 i1.1 hb h8 hImg (fun m2 o2 n2 z2 => ?_)
      have o3 : offM (fun c j => c = 47 ∧ j = 2) m2 (mm_uI m2 47 2 0) := offM_uI ⟨rfl, rfl⟩
      have g3 : (mm_uI m2 47 2 0).1 47 2 = 0 := uI_at _ _ _ _
      generalize mm_uI m2 47 2 0 = m3 at o3 g3 ⊢
      have e18 : m3.1 0 18 = nI a.2.2.2.2 := by rw [o3.1 _ _ (by omega), o2.1 _ _ (by unfold wRi; omega), o1.1 _ _ (by omega)]; exact hc.2.2.2.2.1
      rw [e18, nI_1]
      have o4 : offM (fun c j => c = 0 ∧ j = 18) m3 (mm_uI m3 0 18 (nI (a.2.2.2.2 + 1))) := offM_uI ⟨rfl, rfl⟩
      have s3 : cST (700 * (u + 1)) (onN a.1.1 a.2.2.1.1 a.2.1.2.1.2.1, [], []) m3 := by
        obtain ⟨f1, f2, f3, f4, p, f5, f6, f7⟩ := s1
        refine ⟨cN_off n2 o3 (fun c j q => by omega), ⟨0, ?_, Nat.zero_le _, rfl, fun k q hq => by simp at hq⟩, Nat.zero_le _, g3, p, f5, ?_, fun k s hs => by simp at hs⟩
        · rw [o3.1 _ _ (by omega)]; exact z2
        · rw [o3.1 _ _ (by omega), o2.1 _ _ (by unfold wRi; omega)]; exact f6
      have o : offM (fun c j => (c = 0 ∧ j = 1) ∨ wRi c j ∨ (c = 47 ∧ j = 2) ∨ (c = 0 ∧ j = 18)) M (mm_uI m3 0 18 (nI (a.2.2.2.2 + 1))) := offM_tr (offM_tr (offM_tr (offM_mono o1 (fun c j q => Or.inl q)) (offM_mono o2 (fun c j q => Or.inr (Or.inl q)))) (offM_mono o3 (fun c j q => Or.inr (Or.inr (Or.inl q))))) (offM_mono o4 (fun c j q => Or.inr (Or.inr (Or.inr q))))
      have o24 : offM (fun c j => wRi c j ∨ (c = 47 ∧ j = 2) ∨ (c = 0 ∧ j = 18)) m1 (mm_uI m3 0 18 (nI (a.2.2.2.2 + 1))) := offM_tr (offM_tr (offM_mono o2 (fun c j q => Or.inl q)) (offM_mono o3 (fun c j q => Or.inr (Or.inl q)))) (offM_mono o4 (fun c j q => Or.inr (Or.inr q)))
      exact ⟨rfl, offA_of o (fun c j q => by unfold wRi at q; unfold cl; omega), CC_act hc hV (offA_M o) (fun c j q => by unfold wRi at q; unfold k1 k5 k9; omega) (cIO_off i1 (offA_M o24) (fun c j q => by unfold wRi at q; omega)) (cST_off s3 (offA_M o4) (fun c j q => by omega)) (uI_at _ _ _ _)⟩
    · obtain ⟨d1, d2, d3, d4, d5⟩ := id hmm
      have p1 : offM (fun c j => c = 164 ∧ j = 1) m (mm_uI m 164 1 0) := offM_uI ⟨rfl, rfl⟩
      have j1 : mIO (lenA a.1 0) (mm_uI m 164 1 0) := mIO_len d1
      refine rX12_on hGm ?_
      rw [d1.2.1]
      generalize mm_uI m 164 1 0 = m1 at p1 j1 ⊢
      have hG1 : mm_G m1.2.2 := by rw [p1.2.2]; exact hGm
      have hR1 := mRU_off d2 (offA_M p1) (fun c j q => by omega)
      refine m_isImage hG1 hR1 j1.1 hb hL h8 (fun _ _ => ineg (by decide) (m_houseMany hG1 ?_)) (fun z => absurd ⟨hdu, hImg⟩ z)
      rw [hR1.2.1.2.1, t0, t1, show m1.1 165 0 = a.1.1 0 from j1.1 0 (by decide), show m1.1 165 1 = a.1.1 1 from j1.1 1 (by decide)]
      have s1 := mST_off d3 (offA_M p1) (fun c j q => by omega)
      refine m_onTold hG1 s1.1 vn rfl j1.1 hb h8 hImg (fun m2 o2 n2 => ?_)
      have o3 : offM (fun c j => (c = 199 ∧ j = 43) ∨ (c = 164 ∧ j = 79)) m2 (mm_uI (mm_uI m2 199 43 0) 164 79 0) := offM_tr (offM_uI (Or.inl ⟨rfl, rfl⟩)) (offM_uI (Or.inr ⟨rfl, rfl⟩))
      have g43 : (mm_uI (mm_uI m2 199 43 0) 164 79 0).1 199 43 = 0 := by rw [uI_c (by decide), uI_at]
      have g79 : (mm_uI (mm_uI m2 199 43 0) 164 79 0).1 164 79 = 0 := uI_at _ _ _ _
      generalize mm_uI (mm_uI m2 199 43 0) 164 79 0 = m3 at o3 g43 g79 ⊢
      obtain ⟨f1, f2, f3, p, f4, f5, f6⟩ := s1
      have s3 : mST (onN a.1.1 a.2.2.1.1 a.2.1.2.1.2.1, [], []) m3 := by
        refine ⟨mN_off n2 o3 (fun c j q => by omega), ⟨g43, Nat.zero_le _, fun k q hq => by simp at hq⟩, g79, p, f4, ?_, fun k s hs => by simp at hs⟩
        rw [o3.1 _ _ (by omega), o2.1 _ _ (by omega)]; exact f5
      have o : offM (fun c j => (c = 164 ∧ j = 1) ∨ c = 199 ∨ (c = 164 ∧ j = 79)) m m3 := offM_tr (offM_tr (offM_mono p1 (fun c j q => Or.inl q)) (offM_mono o2 (fun c j q => by omega))) (offM_mono o3 (fun c j q => by omega))
      have o23 : offM (fun c j => c = 199 ∨ (c = 164 ∧ j = 79)) m1 m3 := offM_tr (offM_mono o2 (fun c j q => by omega)) (offM_mono o3 (fun c j q => by omega))
      exact ⟨rfl, offA_of o (fun c j q => by unfold ml; omega), MM_act hmm (offA_M o) (fun c j q z => by unfold k4 k8 k10 at z; omega) (mIO_off j1 (offA_M o23) (fun c j q => by omega)) s3⟩
  · refine ⟨0, (refA (lenA a.1 0) 5, a.2), VV_io hv ⟨Nat.zero_le _, hv.1.2⟩, ?_, fun m hGm hmm => ?_⟩
    · refine rX11_on hG (rX11_takeTape hG ?_)
      rw [hc.1.2.1]
      generalize mm_uI M 0 1 0 = m1 at o1 i1 r1 ⊢
      have hG1 : mm_G m1.2.2 := by rw [o1.2.2]; exact hG
      have bad : mm_CI mX11_refuse 899 [.ref 0, .int 5] m1 (fun z32 m32 => cQ u (refA (lenA a.1 0) 5, a.2) 0 M 0 m32) := c_refuse (k := 5) hG1 i1 (by decide) (fun m2 o2 i2 => by
        have o : offM (fun c j => (c = 0 ∧ j = 1) ∨ c = 2) M m2 := offM_tr (offM_mono o1 (fun c j q => Or.inl q)) (offM_mono o2 (fun c j q => Or.inr q))
        exact ⟨rfl, offA_of o (fun c j q => by unfold cl; omega), CC_io hc (offA_M o) (fun c j q => by unfold k1; omega) i2⟩)
      refine c_hasDuchy hG1 r1 (fun hdu => ineg (by decide) ⟨_, r1.1, r1.2.2.2.1, ?_⟩) (fun q => ipos rfl bad)
      rw [r1.2.2.2.2.2.2.1]
      exact c_isImage hG1 i1.1 hb hL h8 (fun z => absurd ⟨hdu, z⟩ ck) (fun _ => ipos rfl bad)
    · obtain ⟨d1, d2, d3, d4, d5⟩ := id hmm
      have p1 : offM (fun c j => c = 164 ∧ j = 1) m (mm_uI m 164 1 0) := offM_uI ⟨rfl, rfl⟩
      have j1 : mIO (lenA a.1 0) (mm_uI m 164 1 0) := mIO_len d1
      refine rX12_on hGm ?_
      rw [d1.2.1]
      generalize mm_uI m 164 1 0 = m1 at p1 j1 ⊢
      have hG1 : mm_G m1.2.2 := by rw [p1.2.2]; exact hGm
      have hR1 := mRU_off d2 (offA_M p1) (fun c j q => by omega)
      refine m_isImage hG1 hR1 j1.1 hb hL h8 (fun h1 h2 => absurd ⟨h1, h2⟩ ck) (fun _ => ipos rfl ?_)
      rw [t5]
      obtain ⟨o2, i2⟩ := m_refused j1 (k := 5) (by decide)
      have o : offM (fun c j => (c = 164 ∧ j = 1) ∨ c = 166) m (mm_uI m1 166 5 (m1.1 166 5 + 1)) := offM_tr (offM_mono p1 (fun c j q => Or.inl q)) (offM_mono o2 (fun c j q => Or.inr q))
      exact ⟨rfl, offA_of o (fun c j q => by unfold ml; omega), MM_io hmm (offA_M o) (fun c j q => by unfold k2; omega) i2⟩
