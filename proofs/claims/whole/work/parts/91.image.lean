/-! ===== image ===== -/
def rwI (hs : Nat) : Nat → Nat
  | 0 => 2 + 3 * hs
  | p + 1 => rwI hs p + (hs - 1 - p)
/-- where the hate of a pair lies in an image -/
def poI (hs p q : Nat) : Nat := rwI hs p + (q - p - 1)
def ilen (hs : Nat) : Nat := rwI hs hs + 1
def prsI (hs : Nat) : List (Nat × Nat) := (List.range hs).flatMap (fun p => (List.range' (p + 1) (hs - 1 - p)).map (fun q => (p, q)))
theorem prsI_at0 : ∀ hs, hs < 8 → ∀ x, x < 49 → (x / 7 < x % 7 ∧ x % 7 < hs) → ((prsI hs)[poI hs (x / 7) (x % 7) - (2 + 3 * hs)]? = some (x / 7, x % 7) ∧ 2 + 3 * hs ≤ poI hs (x / 7) (x % 7) ∧ poI hs (x / 7) (x % 7) + 1 < ilen hs) := by decide +kernel
theorem prsI_at (hs : Nat) (h8 : hs < 8) (p : Nat) (hp : p < hs) (q : Nat) (hq : q < hs) (hpq : p < q) : (prsI hs)[poI hs p q - (2 + 3 * hs)]? = some (p, q) ∧ 2 + 3 * hs ≤ poI hs p q ∧ poI hs p q + 1 < ilen hs := by
  have := prsI_at0 hs h8 (7 * p + q) (by omega)
  rw [show (7 * p + q) / 7 = p by omega, show (7 * p + q) % 7 = q by omega] at this
  exact this ⟨hpq, hq⟩
theorem ilen_le : ∀ hs, hs < 8 → ilen hs ≤ 45 ∧ 2 + 3 * hs < ilen hs ∧ rwI hs hs + 1 = ilen hs ∧ 2 + 3 * nI hs + nI hs * (nI hs - 1) / 2 + 1 = nI (ilen hs) := by decide +kernel
theorem rwI_end : ∀ hs, hs < 8 → ∀ p, p < hs → poI hs p hs = rwI hs (p + 1) ∧ poI hs p (p + 1) = rwI hs p := by decide +kernel
def imgB (N : dN) (hs j : Nat) : Int32 := if j = 0 then N.1 / 256 else if j = 1 then N.1 - N.1 / 256 * 256 else if j < 2 + 3 * hs then (if (j - 2) % 3 = 0 then (if N.2.1.testBit ((j - 2) / 3) then 1 else 0) else if (j - 2) % 3 = 1 then N.2.2.1 ((j - 2) / 3) else N.2.2.2.1 ((j - 2) / 3)) else (match (prsI hs)[j - (2 + 3 * hs)]? with
  | some q => N.2.2.2.2 q.1 q.2
  | none => 0)
def chkI (f : Nat → Int32) : Nat → Int32
  | 0 => 233
  | n + 1 => (3 * chkI f n + f n) - (3 * chkI f n + f n) / 251 * 251
theorem chkI_ext {f g : Nat → Int32} : ∀ n, (∀ j, j < n → f j = g j) → chkI f n = chkI g n
  | 0, _ => rfl
  | n + 1, h => by
    show (3 * chkI f n + f n) - (3 * chkI f n + f n) / 251 * 251 = (3 * chkI g n + g n) - (3 * chkI g n + g n) / 251 * 251
    rw [chkI_ext n (fun j hj => h j (by omega)), h n (by omega)]
theorem c_checkByte {d r0 n0 n : Nat} {M : mm_M} {K : Int32 → mm_M → Prop} (hr : mm_SH[r0]? = some (0, n0)) (hn0 : n0 < 2 ^ 31) (hG : mm_G M.2.2) (hn : n ≤ n0) (hK : K (chkI (M.1 r0) n) M) : mm_CI mX9_checkByte d [.ref r0, .int (nI n)] M K := by
  have loop : ∀ (k i : Nat), i + k = n → jX9_checkByte_6 d r0 n0 (nI n) M K (nI n) (chkI (M.1 r0) i) (nI i) := by
    intro k
    induction k with
    | zero =>
      intro i hi
      obtain rfl : i = n := by omega
      exact lX9_checkByte_6 hr hG (ipos (nI_le (Nat.le_refl _) (by omega)) hK)
    | succ k ih =>
      intro i hi
      refine lX9_checkByte_6 hr hG (ineg (nI_ge (by omega) (by omega)) (ineg (nI_ge (by omega) hn0) ⟨vp_in_nI (by omega) hn0, ?_⟩))
      rw [nI_clamp (by omega), nI_1]
      exact ih (i + 1) (by omega)
  exact rX9_checkByte hr hG (loop n 0 (by omega))
theorem m_checked {d r0 n0 n : Nat} {M : mm_M} {K : Int32 → mm_M → Prop} (hr : mm_SH[r0]? = some (0, n0)) (hn0 : n0 < 2 ^ 31) (hG : mm_G M.2.2) (hn : n ≤ n0) (hK : K (chkI (M.1 r0) n) M) : mm_CI mX12_checked d [.ref r0, .int (nI n)] M K := by
  have loop : ∀ (k i : Nat), i + k = n → jX12_checked_6 d r0 n0 (nI n) M K (nI n) (chkI (M.1 r0) i) (nI i) := by
    intro k
    induction k with
    | zero =>
      intro i hi
      obtain rfl : i = n := by omega
      exact lX12_checked_6 hr hG (ipos (nI_le (Nat.le_refl _) (by omega)) hK)
    | succ k ih =>
      intro i hi
      refine lX12_checked_6 hr hG (ineg (nI_ge (by omega) (by omega)) ⟨vp_in_nI (by omega) hn0, ?_⟩)
      rw [nI_clamp (by omega), nI_1]
      exact ih (i + 1) (by omega)
  exact rX12_checked hr hG (loop n 0 (by omega))
theorem imgB_3 {N : dN} {hs h : Nat} (hh : h < hs) : imgB N hs (2 + 3 * h) = (if N.2.1.testBit h then 1 else 0) ∧ imgB N hs (3 + 3 * h) = N.2.2.1 h ∧ imgB N hs (4 + 3 * h) = N.2.2.2.1 h := by
  unfold imgB
  refine ⟨?_, ?_, ?_⟩
  · rw [if_neg (by omega), if_neg (by omega), if_pos (by omega), if_pos (by omega), show (2 + 3 * h - 2) / 3 = h by omega]
  · rw [if_neg (by omega), if_neg (by omega), if_pos (by omega), if_neg (by omega), if_pos (by omega), show (3 + 3 * h - 2) / 3 = h by omega]
  · rw [if_neg (by omega), if_neg (by omega), if_pos (by omega), if_neg (by omega), if_neg (by omega), show (4 + 3 * h - 2) / 3 = h by omega]
theorem imgB_p {N : dN} {hs p q : Nat} (h8 : hs < 8) (hp : p < hs) (hq : q < hs) (hpq : p < q) : imgB N hs (poI hs p q) = N.2.2.2.2 p q := by
  obtain ⟨h1, h2, h3⟩ := prsI_at hs h8 p hp q hq hpq
  unfold imgB
  rw [if_neg (by omega), if_neg (by omega), if_neg (by omega), h1]
def picA (N : dN) (hs : Nat) : Nat → Int32 := fun j => if j + 1 = ilen hs then chkI (imgB N hs) (rwI hs hs) else imgB N hs j
theorem c_writeImage {d hs : Nat} {U : dU} {N : dN} {M : mm_M} {K : Int32 → mm_M → Prop} (hG : mm_G M.2.2) (hN : cN 37 N M) (vu : vU U) (vn : vN U N) (h8 : hs < 8) (hK : ∀ m, offM (fun c _ => c = 3) M m → (∀ j, j < ilen hs → m.1 3 j = picA N hs j) → K (nI (ilen hs)) m) : mm_CI mX9_writeImage (d + 1) [.ref 37, .ref 3, .int (nI hs)] M K := by
  have hr : mm_SH[3]? = some (0, 45) := rfl
  obtain ⟨l1, l2, l3, l4⟩ := ilen_le hs h8
  have hth := vN_lt vu vn
  have t0 : (0 : Int32).toNatClampNeg = 0 := rfl
  have t1 : (1 : Int32).toNatClampNeg = 1 := rfl
  refine rX9_writeImage st37 hr hG (rX9_imageLength hG ?_)
  rw [l4]
  refine ipos (nI_le l1 (by decide)) ⟨vp_in_nI (n := 0) (by decide) (by decide), vp_in_nI (n := 1) (by decide) (by decide), ?_⟩
  rw [t0, t1, uI_c (c := 37) (by decide), hN.1]
  -- the pairs
  have rowL : ∀ (k p q : Nat) (m : mm_M), q + k = hs → p < q → p < hs → offM (fun c _ => c = 3) M m → (∀ j, j < poI hs p q → m.1 3 j = imgB N hs j) → (∀ m', offM (fun c _ => c = 3) M m' → (∀ j, j < rwI hs (p + 1) → m'.1 3 j = imgB N hs j) → jX9_writeImage_103 d 37 3 45 (nI hs) m' K (nI hs) (nI (ilen hs)) (nI (rwI hs (p + 1))) (nI (p + 1))) → jX9_writeImage_115 d 37 3 45 (nI hs) m K (nI hs) (nI (ilen hs)) (nI (poI hs p q)) (nI p) (nI q) := by
    intro k
    induction k with
    | zero =>
      intro p q m hq hpq hp ho h hk
      obtain rfl : q = hs := by omega
      refine lX9_writeImage_115 st37 hr (by rw [ho.2.2]; exact hG) (ipos (nI_le (Nat.le_refl _) (by omega)) ?_)
      have e := (rwI_end q h8 p hp).1
      rw [e, nI_1]
      rw [e] at h
      exact hk m ho h
    | succ k ih =>
      intro p q m hq hpq hp ho h hk
      obtain ⟨e1, e2, e3⟩ := prsI_at hs h8 p hp q (by omega) hpq
      refine lX9_writeImage_115 st37 hr (by rw [ho.2.2]; exact hG) (ineg (nI_ge (by omega) (by omega)) ?_)
      have ep : poI hs p q + 1 = poI hs p (q + 1) := by unfold poI; omega
      rw [ix8 p (by omega) q (by omega), nI_clamp (n := 8 * p + q) (by omega), nI_clamp (n := poI hs p q) (by omega), ho.1 40 _ (by omega), show M.1 40 (8 * p + q) = N.2.2.2.2 p q from hN.2.2.2.2 p q (by omega) (by omega), nI_1, nI_1, ep]
      refine ⟨vp_in_nI (by omega) (by decide), vp_in_nI (by omega) (by decide), ih p (q + 1) _ (by omega) (by omega) hp (offM_tr ho (offM_uI rfl)) (fun j hj => ?_) hk⟩
      by_cases c : j = poI hs p q
      · subst c; rw [uI_at, imgB_p h8 hp (by omega) hpq]
      · rw [uI_j c]; exact h j (by omega)
  have rows : ∀ (k p : Nat) (m : mm_M), p + k = hs → offM (fun c _ => c = 3) M m → (∀ j, j < rwI hs p → m.1 3 j = imgB N hs j) → jX9_writeImage_103 d 37 3 45 (nI hs) m K (nI hs) (nI (ilen hs)) (nI (rwI hs p)) (nI p) := by
    intro k
    induction k with
    | zero =>
      intro p m hp ho h
      obtain rfl : p = hs := by omega
      refine lX9_writeImage_103 st37 hr (by rw [ho.2.2]; exact hG) (ipos (nI_le (Nat.le_refl _) (by omega)) ?_)
      refine c_checkByte hr (by decide) (by rw [ho.2.2]; exact hG) (by omega) ?_
      rw [nI_clamp (by omega), chkI_ext (g := imgB N p) _ h]
      refine ⟨vp_in_nI (by omega) (by decide), hK _ (offM_tr ho (offM_uI rfl)) (fun j hj => ?_)⟩
      unfold picA
      by_cases c : j = rwI p p
      · subst c; rw [uI_at, if_pos (by omega)]
      · rw [uI_j c, if_neg (by omega)]; exact h j (by omega)
    | succ k ih =>
      intro p m hp ho h
      refine lX9_writeImage_103 st37 hr (by rw [ho.2.2]; exact hG) (ineg (nI_ge (by omega) (by omega)) ?_)
      have e := (rwI_end hs h8 p (by omega)).2
      rw [nI_1, ← e]
      exact rowL (hs - (p + 1)) p (p + 1) m (by omega) (by omega) (by omega) ho (by rw [e]; exact h) (fun m' o' h' => ih (p + 1) m' (by omega) o' h')
  have first : ∀ (k h : Nat) (m : mm_M), h + k = hs → offM (fun c _ => c = 3) M m → (∀ j, j < 2 + 3 * h → m.1 3 j = imgB N hs j) → jX9_writeImage_41 d 37 3 45 (nI hs) m K (nI hs) (nI (ilen hs)) (nI (2 + 3 * h)) (nI h) := by
    intro k
    induction k with
    | zero =>
      intro h m hh ho hj
      obtain rfl : h = hs := by omega
      refine lX9_writeImage_41 st37 hr (by rw [ho.2.2]; exact hG) (ipos (nI_le (Nat.le_refl _) (by omega)) ?_)
      exact rows h 0 m (by omega) ho hj
    | succ k ih =>
      intro h m hh ho hj
      have hGm : mm_G m.2.2 := by rw [ho.2.2]; exact hG
      have hNm : cN 37 N m := cN_off hN ho (fun c j q => by omega)
      obtain ⟨b1, b2, b3⟩ := imgB_3 (N := N) (hs := hs) (h := h) (by omega)
      have put : ∀ z : Int32, z = (if N.2.1.testBit h then 1 else 0) → jX9_writeImage_64 d 37 3 45 (nI hs) m K (nI hs) (nI (ilen hs)) (nI (2 + 3 * h)) (nI h) z (nI (2 + 3 * h)) := by
        intro z hz
        have a1 : nI (2 + 3 * h) + 1 = nI (3 + 3 * h) := by rw [nI_1]; congr 1; omega
        have a2 : nI (2 + 3 * h) + 2 = nI (4 + 3 * h) := by
          have : nI (2 + 3 * h) + 2 = nI (2 + 3 * h + 2) := nI_add _ 2
          rw [this]; congr 1; omega
        have a3 : nI (2 + 3 * h) + 3 = nI (2 + 3 * (h + 1)) := by
          have : nI (2 + 3 * h) + 3 = nI (2 + 3 * h + 3) := nI_add _ 3
          rw [this]; congr 1
        refine lX9_writeImage_64 st37 hr hGm ?_
        rw [a1, a2, a3, nI_clamp (n := 2 + 3 * h) (by omega), nI_clamp (n := 3 + 3 * h) (by omega), nI_clamp (n := 4 + 3 * h) (by omega), nI_clamp (n := h) (by omega), uI_c (c := 37 + 1) (by decide), uI_c (c := 37 + 2) (by decide), uI_c (c := 37 + 2) (by decide), hNm.2.2.1 h (by omega), hNm.2.2.2.1 h (by omega), nI_1]
        refine ⟨vp_in_nI (by omega) (by decide), vp_in_nI (by omega) (by decide), vp_in_nI (by omega) (by decide), vp_in_nI (by omega) (by decide), vp_in_nI (by omega) (by decide), ?_⟩
        refine ih (h + 1) _ (by omega) (offM_tr ho (offM_tr (offM_tr (offM_uI rfl) (offM_uI rfl)) (offM_uI rfl))) (fun j hj2 => ?_)
        by_cases c4 : j = 4 + 3 * h
        · subst c4; rw [uI_at, b3]
        rw [uI_j c4]
        by_cases c3 : j = 3 + 3 * h
        · subst c3; rw [uI_at, b2]
        rw [uI_j c3]
        by_cases c2 : j = 2 + 3 * h
        · subst c2; rw [uI_at, b1, hz]
        rw [uI_j c2]
        exact hj j (by omega)
      refine lX9_writeImage_41 st37 hr hGm (ineg (nI_ge (by omega) (by omega)) (c_isThere st37 hGm hNm.2.1 hth (by omega) ?_))
      by_cases c : N.2.1.testBit h = true
      · rw [if_pos c]; exact ineg (by decide) (put 1 (by rw [if_pos c]))
      · rw [if_neg c]; exact ipos rfl (put 0 (by rw [if_neg c]))
  refine first hs 0 _ (by omega) (offM_tr (offM_uI rfl) (offM_uI rfl)) (fun j hj => ?_)
  by_cases c1 : j = 1
  · subst c1; rw [uI_at]; rfl
  · obtain rfl : j = 0 := by omega
    rw [uI_j (by decide), uI_at]; rfl
def picB (a : dIO) (f : Nat → Int32) (n : Nat) : dIO := (a.1, a.2.1, a.2.2.1, a.2.2.2.1, a.2.2.2.2.1, a.2.2.2.2.2.1, f, n)
def wIm (c j : Nat) : Prop := c = 242 ∨ (c = 164 ∧ j = 115)
theorem m_writes {d n : Nat} {x : Int32} {M : mm_M} {K : mm_M → Prop} (hG : mm_G M.2.2) (h : M.1 164 115 = nI n) (hn : n < 45) (hK : ∀ m, offM wIm M m → m.1 164 115 = nI (n + 1) → m.1 242 n = x → (∀ j, j ≠ n → m.1 242 j = M.1 242 j) → K m) : mm_CV mX12_writes d [.ref 164, .int x] M K := by
  refine rX12_writes hG ?_
  rw [h, nI_clamp (by omega), uI_c (c := 164) (by decide), h, nI_1]
  refine ⟨vp_in_nI hn (by decide), hK _ (offM_tr (offM_uI (Or.inl rfl)) (offM_uI (Or.inr ⟨rfl, rfl⟩))) (uI_at _ _ _ _) ?_ (fun j hj => ?_)⟩
  · rw [uI_c (by decide), uI_at]
  · rw [uI_c (by decide), uI_j hj]
theorem s28 : lw_S28 Inv := by
  intro u M hu hG hI
  refine stepI hI (fun a hv hc hm => ?_)
  have vu := hv.2.1.1
  have vn := hv.2.2.1.1.1
  have h8 : a.2.1.2.1.2.1 < 8 := by have := vu.2.1; omega
  obtain ⟨l1, l2, l3, l4⟩ := ilen_le a.2.1.2.1.2.1 h8
  refine ⟨nI (ilen a.2.1.2.1.2.1), (picB a.1 (picA a.2.2.1.1 a.2.1.2.1.2.1) (ilen a.2.1.2.1.2.1), a.2), VV_io hv ⟨hv.1.1, hv.1.2.1, hv.1.2.2.1, l1⟩, ?_, fun m hGm hmm => ?_⟩
  · refine rX11_image hG ⟨_, hc.2.1.1, hc.2.1.2.2.2.1, ?_⟩
    rw [hc.2.1.2.2.2.2.2.2.1]
    refine c_writeImage hG hc.2.2.1.1 vu vn h8 (fun m1 o1 p1 => ?_)
    rw [uI_at]
    have o : offM (fun c j => c = 3 ∨ (c = 0 ∧ j = 7)) M (mm_uI m1 0 7 (nI (ilen a.2.1.2.1.2.1))) := offM_tr (offM_mono o1 (fun c j q => Or.inl q)) (offM_uI (Or.inr ⟨rfl, rfl⟩))
    refine ⟨rfl, offA_of o (fun c j q => by unfold cl; omega), CC_io hc (offA_M o) (fun c j q => by unfold k1; omega) ?_⟩
    obtain ⟨h1, h2, h3, h4, h5, h6, h7, h8'⟩ := hc.1
    exact ⟨fun j hj => by rw [o.1 _ _ (by omega)]; exact h1 j hj, by rw [o.1 _ _ (by omega)]; exact h2, fun j hj => by rw [o.1 _ _ (by omega)]; exact h3 j hj, by rw [o.1 _ _ (by omega)]; exact h4, by rw [o.1 _ _ (by omega)]; exact h5, by rw [o.1 _ _ (by omega)]; exact h6, fun j hj => by rw [uI_c (by decide)]; exact p1 j hj, uI_at _ _ _ _⟩
  · obtain ⟨d1, d2, d3, d4, d5⟩ := id hmm
    generalize hhs : a.2.1.2.1.2.1 = hs at *
    have hUs : ∀ m1, offM wIm m m1 → mm_G m1.2.2 ∧ m1.1 164 38 = nI hs ∧ mN a.2.2.1.1 m1 := fun m1 o => ⟨by rw [o.2.2]; exact hGm, by rw [o.1 _ _ (by unfold wIm; omega), ← hhs]; exact d2.2.1.2.1, mN_off d3.1 o (fun c j q => by unfold wIm at q; omega)⟩
    have t0 : (0 : Int32).toNatClampNeg = 0 := rfl
    have stp : ∀ (m1 m2 : mm_M) (n : Nat) (x : Int32), (∀ j, j < n → m1.1 242 j = imgB a.2.2.1.1 hs j) → m2.1 242 n = x → (∀ j, j ≠ n → m2.1 242 j = m1.1 242 j) → x = imgB a.2.2.1.1 hs n → ∀ j, j < n + 1 → m2.1 242 j = imgB a.2.2.1.1 hs j := fun m1 m2 n x h1 h2 h3 hx j hj => by
      by_cases c : j = n
      · subst c; rw [h2, hx]
      · rw [h3 j c]; exact h1 j (by omega)
    have rowL : ∀ (k p q : Nat) (m1 : mm_M), q + k = hs → p < q → p < hs → offM wIm m m1 → m1.1 164 115 = nI (poI hs p q) → (∀ j, j < poI hs p q → m1.1 242 j = imgB a.2.2.1.1 hs j) → (∀ m', offM wIm m m' → m'.1 164 115 = nI (rwI hs (p + 1)) → (∀ j, j < rwI hs (p + 1) → m'.1 242 j = imgB a.2.2.1.1 hs j) → jX12_image_65 899 m' (mQ (picB a.1 (picA a.2.2.1.1 hs) (ilen hs), a.2) (nI (ilen hs)) m) (nI (p + 1))) → jX12_image_77 899 m1 (mQ (picB a.1 (picA a.2.2.1.1 hs) (ilen hs), a.2) (nI (ilen hs)) m) (nI p) (nI q) := by
      intro k
      induction k with
      | zero =>
        intro p q m1 hq hpq hp ho h115 h hk
        obtain rfl : q = hs := by omega
        obtain ⟨g1, g2, g3⟩ := hUs m1 ho
        have e := (rwI_end q h8 p hp).1
        rw [e] at h h115
        refine lX12_image_77 g1 (m_houseMany g1 ?_)
        rw [g2, nI_1]
        exact ipos (nI_le (Nat.le_refl _) (by omega)) (hk m1 ho h115 h)
      | succ k ih =>
        intro p q m1 hq hpq hp ho h115 h hk
        obtain ⟨g1, g2, g3⟩ := hUs m1 ho
        obtain ⟨e1, e2, e3⟩ := prsI_at hs h8 p hp q (by omega) hpq
        have ep : poI hs p q + 1 = poI hs p (q + 1) := by unfold poI; omega
        refine lX12_image_77 g1 (m_houseMany g1 ?_)
        rw [g2, nI_1 p, nI_1 q]
        refine ineg (nI_ge (by omega) (by omega)) (m_hateOf g1 g3 (by omega) (by omega) (by omega) (m_writes g1 h115 (by omega) (fun m2 o2 h2 x2 n2 => ?_)))
        rw [ep] at h2
        refine ih p (q + 1) m2 (by omega) (by omega) hp (offM_tr ho o2) h2 ?_ hk
        rw [← ep]
        exact stp m1 m2 _ _ h x2 n2 (imgB_p h8 hp (by omega) hpq).symm
    have rows : ∀ (k p : Nat) (m1 : mm_M), p + k = hs → offM wIm m m1 → m1.1 164 115 = nI (rwI hs p) → (∀ j, j < rwI hs p → m1.1 242 j = imgB a.2.2.1.1 hs j) → jX12_image_65 899 m1 (mQ (picB a.1 (picA a.2.2.1.1 hs) (ilen hs), a.2) (nI (ilen hs)) m) (nI p) := by
      intro k
      induction k with
      | zero =>
        intro p m1 hp ho h115 h
        obtain rfl : p = hs := by omega
        obtain ⟨g1, g2, g3⟩ := hUs m1 ho
        refine lX12_image_65 g1 (m_houseMany g1 ?_)
        rw [g2, h115]
        refine ipos (nI_le (Nat.le_refl _) (by omega)) (m_checked (n0 := 45) rfl (by decide) g1 (by omega) (m_writes g1 h115 (by omega) (fun m2 o2 h2 x2 n2 => ?_)))
        rw [l3] at h2
        have o : offM wIm m m2 := offM_tr ho o2
        refine ⟨h2, offA_of o (fun c j q => by unfold wIm at q; unfold ml; omega), MM_io hmm (offA_M o) (fun c j q => by unfold wIm at q; unfold k2; omega) ?_⟩
        obtain ⟨h1, h2', h3, h4, h5, h6, h7, h8'⟩ := d1
        refine ⟨fun j hj => by rw [o.1 _ _ (by unfold wIm; omega)]; exact h1 j hj, by rw [o.1 _ _ (by unfold wIm; omega)]; exact h2', fun j hj => by rw [o.1 _ _ (by unfold wIm; omega)]; exact h3 j hj, by rw [o.1 _ _ (by unfold wIm; omega)]; exact h4, by rw [o.1 _ _ (by unfold wIm; omega)]; exact h5, by rw [o.2.1 _ _ (by unfold wIm; omega)]; exact h6, fun j hj => ?_, h2⟩
        have hj : j < ilen p := hj
        show _ = picA a.2.2.1.1 p j
        unfold picA
        by_cases c : j = rwI p p
        · subst c; rw [x2, if_pos (by omega), chkI_ext (g := imgB a.2.2.1.1 p) _ h]
        · rw [n2 j c, if_neg (by omega)]; exact h j (by omega)
      | succ k ih =>
        intro p m1 hp ho h115 h
        obtain ⟨g1, g2, g3⟩ := hUs m1 ho
        have e := (rwI_end hs h8 p (by omega)).2
        refine lX12_image_65 g1 (m_houseMany g1 ?_)
        rw [g2, nI_1]
        refine ineg (nI_ge (by omega) (by omega)) ?_
        exact rowL (hs - (p + 1)) p (p + 1) m1 (by omega) (by omega) (by omega) ho (by rw [e]; exact h115) (by rw [e]; exact h) (fun m' o' h1' h2' => ih (p + 1) m' (by omega) o' h1' h2')
    have first : ∀ (k i : Nat) (m1 : mm_M), i + k = 3 * hs → offM wIm m m1 → m1.1 164 115 = nI (2 + i) → (∀ j, j < 2 + i → m1.1 242 j = imgB a.2.2.1.1 hs j) → jX12_image_35 899 m1 (mQ (picB a.1 (picA a.2.2.1.1 hs) (ilen hs), a.2) (nI (ilen hs)) m) (nI i) := by
      intro k
      induction k with
      | zero =>
        intro i m1 hi ho h115 h
        obtain rfl : i = 3 * hs := by omega
        obtain ⟨g1, g2, g3⟩ := hUs m1 ho
        have e3 : 3 * nI hs = nI (3 * hs) := pk_mul 3 hs
        refine lX12_image_35 g1 (m_houseMany g1 ?_)
        rw [g2, e3]
        exact ipos (nI_le (Nat.le_refl _) (by omega)) (rows hs 0 m1 (by omega) ho h115 h)
      | succ k ih =>
        intro i m1 hi ho h115 h
        obtain ⟨g1, g2, g3⟩ := hUs m1 ho
        have e3 : 3 * nI hs = nI (3 * hs) := pk_mul 3 hs
        have e1 : (1 : Int32) + nI i = nI (1 + i) := nI_add 1 i
        refine lX12_image_35 g1 (m_houseMany g1 ?_)
        rw [g2, e3, e1, nI_clamp (by omega), nI_1]
        refine ineg (nI_ge (by omega) (by omega)) ⟨vp_in_nI (by omega) (by decide), m_writes g1 h115 (by omega) (fun m2 o2 h2 x2 n2 => ?_)⟩
        refine ih (i + 1) m2 (by omega) (offM_tr ho o2) h2 (stp m1 m2 _ _ h x2 n2 ?_)
        obtain ⟨b1, b2, b3⟩ := imgB_3 (N := a.2.2.1.1) (hs := hs) (h := i / 3) (by omega)
        have hh7 : i / 3 < 7 := by omega
        have hm3 : i % 3 = 0 ∨ i % 3 = 1 ∨ i % 3 = 2 := by omega
        show m1.1 199 (1 + i) = imgB a.2.2.1.1 hs (2 + i)
        rcases hm3 with hm3 | hm3 | hm3
        · rw [show 2 + i = 2 + 3 * (i / 3) by omega, b1, show 1 + i = 1 + 3 * (i / 3) by omega]; exact g3.2.1 _ hh7
        · rw [show 2 + i = 3 + 3 * (i / 3) by omega, b2, show 1 + i = 2 + 3 * (i / 3) by omega]; exact g3.2.2.1 _ hh7
        · rw [show 2 + i = 4 + 3 * (i / 3) by omega, b3, show 1 + i = 3 + 3 * (i / 3) by omega]; exact g3.2.2.2.1 _ hh7
    refine rX12_image hGm ?_
    have o0 : offM wIm m (mm_uI m 164 115 0) := offM_uI (Or.inr ⟨rfl, rfl⟩)
    have g0 : (mm_uI m 164 115 0).1 164 115 = nI 0 := uI_at _ _ _ _
    generalize mm_uI m 164 115 0 = m0 at o0 g0 ⊢
    obtain ⟨q1, q2, q3⟩ := hUs m0 o0
    rw [t0, q3.1]
    refine m_writes q1 g0 (by decide) (fun m1 o1 h1 x1 n1 => ?_)
    obtain ⟨r1, r2, r3⟩ := hUs m1 (offM_tr o0 o1)
    rw [r3.1]
    refine m_writes r1 h1 (by decide) (fun m2 o2 h2 x2 n2 => ?_)
    exact first (3 * hs) 0 m2 (by omega) (offM_tr (offM_tr o0 o1) o2) h2 (stp m1 m2 1 _ (stp m0 m1 0 _ (fun j hj => by omega) x1 n1 rfl) x2 n2 rfl)
