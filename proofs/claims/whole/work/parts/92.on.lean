/-! ===== on ===== -/
def okH (f : Nat → Int32) (h : Nat) : Prop := (f (2 + 3 * h)).toInt ≤ 1 ∧ (f (3 + 3 * h)).toInt ≤ 99 ∧ (f (4 + 3 * h)).toInt ≤ 9
def okP (f : Nat → Int32) (hs p q : Nat) : Prop := (f (poI hs p q)).toInt ≤ (if f (2 + 3 * p) = 1 ∧ f (2 + 3 * q) = 1 then 99 else 0)
def isImg (f : Nat → Int32) (L hs : Nat) : Prop := L = ilen hs ∧ (f 0).toInt * 256 + (f 1).toInt ≤ 999 ∧ f (L - 1) = chkI f (L - 1) ∧ (∀ h, h < hs → okH f h) ∧ ∀ p q, p < q → q < hs → okP f hs p q
theorem byte2 {x y : Int32} (hx : inI 0 255 x) (hy : inI 0 255 y) : (x * 256 + y).toInt = x.toInt * 256 + y.toInt ∧ (256 * x + y).toInt = x.toInt * 256 + y.toInt := by
  unfold inI at hx hy
  have e256 : (256 : Int32).toInt = 256 := rfl
  constructor
  · rw [Int32.toInt_add, Int32.toInt_mul, e256, bm32 (n := x.toInt * 256) (by omega) (by omega), bm32 (by omega) (by omega)]
  · rw [Int32.toInt_add, Int32.toInt_mul, e256, bm32 (n := 256 * x.toInt) (by omega) (by omega), bm32 (by omega) (by omega)]
    omega
theorem a3x (h : Nat) : 2 + 3 * nI h = nI (2 + 3 * h) ∧ nI (2 + 3 * h) + 1 = nI (3 + 3 * h) ∧ nI (2 + 3 * h) + 2 = nI (4 + 3 * h) ∧ nI (2 + 3 * h) + 3 = nI (2 + 3 * (h + 1)) := by
  have e3 : 3 * nI h = nI (3 * h) := pk_mul 3 h
  have e2 : (2 : Int32) + nI (3 * h) = nI (2 + 3 * h) := nI_add 2 _
  refine ⟨by rw [e3, e2], by rw [nI_1]; congr 1; omega, ?_, ?_⟩
  · have : nI (2 + 3 * h) + 2 = nI (2 + 3 * h + 2) := nI_add _ 2
    rw [this]; congr 1; omega
  · have : nI (2 + 3 * h) + 3 = nI (2 + 3 * h + 3) := nI_add _ 3
    rw [this]; congr 1
theorem c_isImage {d L hs : Nat} {f : Nat → Int32} {M : mm_M} {K : Int32 → mm_M → Prop} (hG : mm_G M.2.2) (hf : ∀ j, j < 1600 → M.1 1 j = f j) (hb : ∀ j, inI 0 255 (f j)) (hL : L ≤ 1600) (h8 : hs < 8) (h1 : isImg f L hs → K 1 M) (h0 : ¬ isImg f L hs → K 0 M) : mm_CI mX9_isImage (d + 1) [.ref 1, .int (nI L), .int (nI hs)] M K := by
  obtain ⟨l1, l2, l3, l4⟩ := ilen_le hs h8
  have hr : mm_SH[1]? = some (0, 1600) := rfl
  have t0 : (0 : Int32).toNatClampNeg = 0 := rfl
  have t1 : (1 : Int32).toNatClampNeg = 1 := rfl
  have e999 : (999 : Int32).toInt = 999 := rfl
  have e1' : (1 : Int32).toInt = 1 := rfl
  have e99 : (99 : Int32).toInt = 99 := rfl
  have e9 : (9 : Int32).toInt = 9 := rfl
  have e0' : (0 : Int32).toInt = 0 := rfl
  refine rX9_isImage hr hG (rX9_imageLength hG ?_)
  rw [l4]
  by_cases cL : L = ilen hs
  · refine ipos (by rw [cL]) (ineg (nI_nlt (by omega) (by decide)) ⟨vp_in_nI (n := 0) (by decide) (by decide), vp_in_nI (n := 1) (by decide) (by decide), ?_⟩)
    rw [t0, t1, hf 0 (by decide), hf 1 (by decide)]
    have eb := (byte2 (hb 0) (hb 1)).1
    refine ite_go (fun c => h0 (fun z => by have := i32_lt.mp c; rw [eb, e999] at this; have := z.2.1; omega)) (fun c => ?_)
    have c' := mt i32_lt.mpr c
    rw [eb, e999] at c'
    have eL : nI L - 1 = nI (L - 1) := by
      have := nI_pred (L - 1)
      rw [show L - 1 + 1 = L by omega] at this
      exact this
    rw [eL, nI_clamp (by omega), hf (L - 1) (by omega)]
    refine ⟨vp_in_nI (by omega) (by decide), c_checkByte hr (by decide) hG (by omega) ?_⟩
    rw [chkI_ext (g := f) (L - 1) (fun j hj => hf j (by omega))]
    refine ite_go (fun cc => ?_) (fun cc => h0 (fun z => cc z.2.2.1))
    -- pairs
    have rowL : ∀ (k p q : Nat), q + k = hs → p < q → p < hs → (∀ h, h < hs → okH f h) → (∀ a b, a < b → b < hs → (a < p ∨ (a = p ∧ b < q)) → okP f hs a b) → ((∀ a b, a < b → b < hs → a < p + 1 → okP f hs a b) → jX9_isImage_109 d 1 1600 (nI L) (nI hs) M K (nI hs) (nI (rwI hs (p + 1))) (nI (p + 1))) → jX9_isImage_121 d 1 1600 (nI L) (nI hs) M K (nI hs) (nI (poI hs p q)) (nI p) (nI q) := by
      intro k
      induction k with
      | zero =>
        intro p q hq hpq hp hH hP hk
        obtain rfl : q = hs := by omega
        refine lX9_isImage_121 hr hG (ipos (nI_le (Nat.le_refl _) (by omega)) ?_)
        rw [(rwI_end q h8 p hp).1, nI_1]
        exact hk (fun a b ab bh ap => hP a b ab bh (by omega))
      | succ k ih =>
        intro p q hq hpq hp hH hP hk
        obtain ⟨e1, e2, e3⟩ := prsI_at hs h8 p hp q (by omega) hpq
        have ep : poI hs p q + 1 = poI hs p (q + 1) := by unfold poI; omega
        have val : ∀ w : Int32, (w = 1 ∧ f (2 + 3 * p) = 1 ∧ f (2 + 3 * q) = 1) ∨ (w = 0 ∧ ¬ (f (2 + 3 * p) = 1 ∧ f (2 + 3 * q) = 1)) → jX9_isImage_156 d 1 1600 (nI L) (nI hs) M K (nI hs) (nI (poI hs p q)) (nI p) (nI q) w := by
          intro w hw
          refine lX9_isImage_156 hr hG ⟨vp_in_nI (by omega) (by decide), ?_⟩
          rw [nI_clamp (by omega), hf (poI hs p q) (by omega), nI_1, nI_1, ep]
          have next : okP f hs p q → jX9_isImage_121 d 1 1600 (nI L) (nI hs) M K (nI hs) (nI (poI hs p (q + 1))) (nI p) (nI (q + 1)) := fun ok => ih p (q + 1) (by omega) (by omega) hp hH (fun a b ab bh q' => by
            by_cases c : a = p ∧ b = q
            · rw [c.1, c.2]; exact ok
            · exact hP a b ab bh (by omega)) hk
          have bad : ¬ okP f hs p q → K 0 M := fun no => h0 (fun z => no (z.2.2.2.2 p q hpq (by omega)))
          rcases hw with ⟨rfl, hw⟩ | ⟨rfl, hw⟩
          · refine ineg (by decide) (ite_go (fun c => next ?_) (fun c => bad ?_))
            · unfold okP; rw [if_pos hw]; exact i32_le.mp c
            · unfold okP; rw [if_pos hw]; exact fun z => c (i32_le.mpr z)
          · refine ipos rfl (ite_go (fun c => next ?_) (fun c => bad ?_))
            · unfold okP; rw [if_neg hw]; exact i32_le.mp c
            · unfold okP; rw [if_neg hw]; exact fun z => c (i32_le.mpr z)
        refine lX9_isImage_121 hr hG (ineg (nI_ge (by omega) (by omega)) ?_)
        rw [(a3x p).1, (a3x q).1, nI_clamp (n := 2 + 3 * p) (by omega), nI_clamp (n := 2 + 3 * q) (by omega), hf (2 + 3 * p) (by omega), hf (2 + 3 * q) (by omega)]
        refine ⟨vp_in_nI (by omega) (by decide), ite_go (fun c1 => ⟨vp_in_nI (by omega) (by decide), ite_go (fun c2 => val 1 (Or.inl ⟨rfl, c1, c2⟩)) (fun c2 => val 0 (Or.inr ⟨rfl, fun z => c2 z.2⟩))⟩) (fun c1 => val 0 (Or.inr ⟨rfl, fun z => c1 z.1⟩))⟩
    have rows : ∀ (k p : Nat), p + k = hs → (∀ h, h < hs → okH f h) → (∀ a b, a < b → b < hs → a < p → okP f hs a b) → jX9_isImage_109 d 1 1600 (nI L) (nI hs) M K (nI hs) (nI (rwI hs p)) (nI p) := by
      intro k
      induction k with
      | zero =>
        intro p hp hH hP
        obtain rfl : p = hs := by omega
        exact lX9_isImage_109 hr hG (ipos (nI_le (Nat.le_refl _) (by omega)) (h1 ⟨cL, by omega, cc, hH, fun a b ab bh => hP a b ab bh (by omega)⟩))
      | succ k ih =>
        intro p hp hH hP
        refine lX9_isImage_109 hr hG (ineg (nI_ge (by omega) (by omega)) ?_)
        rw [nI_1, ← (rwI_end hs h8 p (by omega)).2]
        exact rowL (hs - (p + 1)) p (p + 1) (by omega) (by omega) (by omega) hH (fun a b ab bh q => hP a b ab bh (by omega)) (fun hP' => ih (p + 1) (by omega) hH hP')
    have first : ∀ (k h : Nat), h + k = hs → (∀ j, j < h → okH f j) → jX9_isImage_50 d 1 1600 (nI L) (nI hs) M K (nI hs) (nI h) := by
      intro k
      induction k with
      | zero =>
        intro h hh hH
        obtain rfl : h = hs := by omega
        refine lX9_isImage_50 hr hG (ipos (nI_le (Nat.le_refl _) (by omega)) ?_)
        rw [(a3x h).1]
        exact rows h 0 (by omega) hH (fun a b _ _ q => by omega)
      | succ k ih =>
        intro h hh hH
        obtain ⟨a1, a2, a3, a4⟩ := a3x h
        refine lX9_isImage_50 hr hG (ineg (nI_ge (by omega) (by omega)) ?_)
        rw [a1, a2, a3, nI_clamp (n := 2 + 3 * h) (by omega), nI_clamp (n := 3 + 3 * h) (by omega), nI_clamp (n := 4 + 3 * h) (by omega), hf _ (by omega), hf _ (by omega), hf _ (by omega), nI_1]
        refine ⟨vp_in_nI (by omega) (by decide), ite_go (fun c => h0 (fun z => ?_)) (fun c1 => ⟨vp_in_nI (by omega) (by decide), ite_go (fun c => h0 (fun z => ?_)) (fun c2 => ⟨vp_in_nI (by omega) (by decide), ite_go (fun c3 => ih (h + 1) (by omega) (fun j hj => ?_)) (fun c => h0 (fun z => ?_))⟩)⟩)⟩
        · have := (z.2.2.2.1 h (by omega)).1; have := i32_lt.mp c; omega
        · have := (z.2.2.2.1 h (by omega)).2.1; have := i32_lt.mp c; omega
        · by_cases e : j = h
          · subst e
            exact ⟨by have := mt i32_lt.mpr c1; omega, by have := mt i32_lt.mpr c2; omega, i32_le.mp c3⟩
          · exact hH j (by omega)
        · have := (z.2.2.2.1 h (by omega)).2.2; exact c (i32_le.mpr this)
    exact first hs 0 (by omega) (fun j hj => by omega)
  · exact ineg (fun q => cL ((nI_eq (by omega) (by omega)).mp q)) (h0 (fun z => cL z.1))
theorem m_isImage {d L : Nat} {f : Nat → Int32} {a : dRU} {M : mm_M} {K : Int32 → mm_M → Prop} (hG : mm_G M.2.2) (hR : mRU a M) (hf : ∀ j, j < 1600 → M.1 165 j = f j) (hb : ∀ j, inI 0 255 (f j)) (hL : L ≤ 1600) (h8 : a.2.1.2.1 < 8) (h1 : a.1 = true → isImg f L a.2.1.2.1 → K 1 M) (h0 : ¬ (a.1 = true ∧ isImg f L a.2.1.2.1) → K 0 M) : mm_CI mX12_isImage (d + 1) [.ref 164, .int (nI L)] M K := by
  generalize hhs : a.2.1.2.1 = hs at *
  obtain ⟨l1, l2, l3, l4⟩ := ilen_le hs h8
  have t0 : (0 : Int32).toNatClampNeg = 0 := rfl
  have t1 : (1 : Int32).toNatClampNeg = 1 := rfl
  have e999 : (999 : Int32).toInt = 999 := rfl
  have e1' : (1 : Int32).toInt = 1 := rfl
  have e99 : (99 : Int32).toInt = 99 := rfl
  have e9 : (9 : Int32).toInt = 9 := rfl
  have e0' : (0 : Int32).toInt = 0 := rfl
  refine rX12_isImage hG (m_houseMany hG ?_)
  rw [hR.2.1.2.1, hR.1, hhs, l4]
  by_cases hdu : ¬ a.1 = true
  · rw [if_neg hdu]; exact ipos rfl (h0 (fun z => hdu z.1))
  have hdu := Decidable.not_not.mp hdu
  rw [if_pos hdu]
  refine ineg (by decide) ?_
  have h0 : ¬ isImg f L hs → K 0 M := fun z => h0 (fun w => z w.2)
  have h1 := h1 hdu
  by_cases cL : L = ilen hs
  · refine ipos (by rw [cL]) ?_
    have eL : nI L - 1 = nI (L - 1) := by
      have := nI_pred (L - 1)
      rw [show L - 1 + 1 = L by omega] at this
      exact this
    rw [eL, nI_clamp (by omega), hf (L - 1) (by omega)]
    refine ⟨vp_in_nI (by omega) (by decide), m_checked (n0 := 1600) rfl (by decide) hG (by omega) ?_⟩
    rw [chkI_ext (g := f) (L - 1) (fun j hj => hf j (by omega))]
    refine ite_go (fun cc => ?_) (fun cc => h0 (fun z => cc z.2.2.1))
    rw [t0, t1, hf 0 (by decide), hf 1 (by decide)]
    have eb := (byte2 (hb 0) (hb 1)).2
    refine ite_go (fun c => ?_) (fun c => h0 (fun z => c (i32_le.mpr (by rw [eb, e999]; exact z.2.1))))
    have c' := i32_le.mp c
    rw [eb, e999] at c'
    rw [(a3x hs).1]
    have rowL : ∀ (k p q : Nat), q + k = hs → p < q → p < hs → (∀ h, h < hs → okH f h) → (∀ a b, a < b → b < hs → (a < p ∨ (a = p ∧ b < q)) → okP f hs a b) → ((∀ a b, a < b → b < hs → a < p + 1 → okP f hs a b) → jX12_isImage_141 d (nI L) M K (nI hs) (nI (rwI hs (p + 1))) (nI (p + 1))) → jX12_isImage_153 d (nI L) M K (nI hs) (nI (poI hs p q)) (nI p) (nI q) := by
      intro k
      induction k with
      | zero =>
        intro p q hq hpq hp hH hP hk
        obtain rfl : q = hs := by omega
        refine lX12_isImage_153 hG (ipos (nI_le (Nat.le_refl _) (by omega)) ?_)
        rw [(rwI_end q h8 p hp).1, nI_1]
        exact hk (fun a b ab bh ap => hP a b ab bh (by omega))
      | succ k ih =>
        intro p q hq hpq hp hH hP hk
        obtain ⟨e1, e2, e3⟩ := prsI_at hs h8 p hp q (by omega) hpq
        have ep : poI hs p q + 1 = poI hs p (q + 1) := by unfold poI; omega
        have val : ∀ w : Int32, (w = 1 ∧ f (2 + 3 * p) = 1 ∧ f (2 + 3 * q) = 1) ∨ (w = 0 ∧ ¬ (f (2 + 3 * p) = 1 ∧ f (2 + 3 * q) = 1)) → jX12_isImage_194 d (nI L) M K (nI hs) (nI (poI hs p q)) (nI p) (nI q) w := by
          intro w hw
          refine lX12_isImage_194 hG ⟨vp_in_nI (by omega) (by decide), ?_⟩
          rw [nI_clamp (by omega), hf (poI hs p q) (by omega), nI_1, nI_1, ep]
          have next : okP f hs p q → jX12_isImage_153 d (nI L) M K (nI hs) (nI (poI hs p (q + 1))) (nI p) (nI (q + 1)) := fun ok => ih p (q + 1) (by omega) (by omega) hp hH (fun a b ab bh q' => by
            by_cases c : a = p ∧ b = q
            · rw [c.1, c.2]; exact ok
            · exact hP a b ab bh (by omega)) hk
          have bad : ¬ okP f hs p q → K 0 M := fun no => h0 (fun z => no (z.2.2.2.2 p q hpq (by omega)))
          rcases hw with ⟨rfl, hw⟩ | ⟨rfl, hw⟩
          · refine ineg (by decide) (ite_go (fun c => next ?_) (fun c => bad ?_))
            · unfold okP; rw [if_pos hw]; exact i32_le.mp c
            · unfold okP; rw [if_pos hw]; exact fun z => c (i32_le.mpr z)
          · refine ipos rfl (ite_go (fun c => next ?_) (fun c => bad ?_))
            · unfold okP; rw [if_neg hw]; exact i32_le.mp c
            · unfold okP; rw [if_neg hw]; exact fun z => c (i32_le.mpr z)
        refine lX12_isImage_153 hG (ineg (nI_ge (by omega) (by omega)) ?_)
        rw [(a3x p).1, (a3x q).1, nI_clamp (n := 2 + 3 * p) (by omega), nI_clamp (n := 2 + 3 * q) (by omega), hf (2 + 3 * p) (by omega), hf (2 + 3 * q) (by omega)]
        refine ⟨vp_in_nI (by omega) (by decide), ite_go (fun c1 => ⟨vp_in_nI (by omega) (by decide), ite_go (fun c2 => val 1 (Or.inl ⟨rfl, c1, c2⟩)) (fun c2 => val 0 (Or.inr ⟨rfl, fun z => c2 z.2⟩))⟩) (fun c1 => val 0 (Or.inr ⟨rfl, fun z => c1 z.1⟩))⟩
    have rows : ∀ (k p : Nat), p + k = hs → (∀ h, h < hs → okH f h) → (∀ a b, a < b → b < hs → a < p → okP f hs a b) → jX12_isImage_141 d (nI L) M K (nI hs) (nI (rwI hs p)) (nI p) := by
      intro k
      induction k with
      | zero =>
        intro p hp hH hP
        obtain rfl : p = hs := by omega
        exact lX12_isImage_141 hG (ipos (nI_le (Nat.le_refl _) (by omega)) (h1 ⟨cL, by omega, cc, hH, fun a b ab bh => hP a b ab bh (by omega)⟩))
      | succ k ih =>
        intro p hp hH hP
        refine lX12_isImage_141 hG (ineg (nI_ge (by omega) (by omega)) ?_)
        rw [nI_1, ← (rwI_end hs h8 p (by omega)).2]
        exact rowL (hs - (p + 1)) p (p + 1) (by omega) (by omega) (by omega) hH (fun a b ab bh q => hP a b ab bh (by omega)) (fun hP' => ih (p + 1) (by omega) hH hP')
    have first : ∀ (k h : Nat), h + k = hs → (∀ j, j < h → okH f j) → jX12_isImage_82 d (nI L) M K (nI hs) (nI (2 + 3 * hs)) (nI (2 + 3 * h)) := by
      intro k
      induction k with
      | zero =>
        intro h hh hH
        obtain rfl : h = hs := by omega
        refine lX12_isImage_82 hG (ipos (nI_le (Nat.le_refl _) (by omega)) ?_)
        exact rows h 0 (by omega) hH (fun a b _ _ q => by omega)
      | succ k ih =>
        intro h hh hH
        obtain ⟨a1, a2, a3, a4⟩ := a3x h
        refine lX12_isImage_82 hG (ineg (nI_ge (by omega) (by omega)) ?_)
        rw [a2, a3, a4, nI_clamp (n := 2 + 3 * h) (by omega), nI_clamp (n := 3 + 3 * h) (by omega), nI_clamp (n := 4 + 3 * h) (by omega), hf _ (by omega), hf _ (by omega), hf _ (by omega)]
        refine ⟨vp_in_nI (by omega) (by decide), ite_go (fun c => h0 (fun z => ?_)) (fun c1 => ⟨vp_in_nI (by omega) (by decide), ite_go (fun c => h0 (fun z => ?_)) (fun c2 => ⟨vp_in_nI (by omega) (by decide), ite_go (fun c3 => ih (h + 1) (by omega) (fun j hj => ?_)) (fun c => h0 (fun z => ?_))⟩)⟩)⟩
        · have := (z.2.2.2.1 h (by omega)).1; have := i32_lt.mp c; omega
        · have := (z.2.2.2.1 h (by omega)).2.1; have := i32_lt.mp c; omega
        · by_cases e : j = h
          · subst e
            exact ⟨by have := mt i32_lt.mpr c1; omega, by have := mt i32_lt.mpr c2; omega, i32_le.mp c3⟩
          · exact hH j (by omega)
        · have := (z.2.2.2.1 h (by omega)).2.2; exact c (i32_le.mpr this)
    exact first hs 0 (by omega) (fun j hj => by omega)
  · exact ineg (fun q => cL ((nI_eq (by omega) (by omega)).mp q)) (h0 (fun z => cL z.1))
/-! the moment that an image tells -/
def thN (f : Nat → Int32) : Nat → Nat
  | 0 => 0
  | h + 1 => thN f h ||| (if f (2 + 3 * h) = 1 then 2 ^ h else 0)
theorem thN_lt (f : Nat → Int32) : ∀ h, thN f h < 2 ^ h
  | 0 => Nat.one_pos
  | h + 1 => by
    have ih := thN_lt f h
    have h1 : thN f h < 2 ^ (h + 1) := Nat.lt_of_lt_of_le ih (Nat.pow_le_pow_right (by decide) (by omega))
    show thN f h ||| (if f (2 + 3 * h) = 1 then 2 ^ h else 0) < 2 ^ (h + 1)
    refine Nat.or_lt_two_pow h1 ?_
    split
    · exact Nat.pow_lt_pow_right (by decide) (by omega)
    · exact Nat.two_pow_pos _
theorem thN_bit (f : Nat → Int32) : ∀ h j, (thN f h).testBit j = (decide (j < h) && decide (f (2 + 3 * j) = 1))
  | 0, j => by show (0 : Nat).testBit j = _; rw [Nat.zero_testBit]; simp
  | h + 1, j => by
    show (thN f h ||| (if f (2 + 3 * h) = 1 then 2 ^ h else 0)).testBit j = _
    rw [Nat.testBit_or, thN_bit f h j]
    by_cases c : f (2 + 3 * h) = 1
    · rw [if_pos c, Nat.testBit_two_pow]
      by_cases e : h = j
      · subst e; simp [c]
      · have : (j < h) ↔ (j < h + 1) := by omega
        simp [e, this]
    · rw [if_neg c, Nat.zero_testBit]
      by_cases e : h = j
      · subst e; simp [c]
      · have : (j < h) ↔ (j < h + 1) := by omega
        simp [this]
def dnI (hs p q a b : Nat) : Prop := min a b < max a b ∧ max a b < hs ∧ (min a b < p ∨ (min a b = p ∧ max a b < q))
def onX (f : Nat → Int32) (N : dN) (i : Nat) : dN := (f 0 * 256 + f 1, thN f i, fun h => if h < i then f (3 + 3 * h) else N.2.2.1 h, fun h => if h < i then f (4 + 3 * h) else N.2.2.2.1 h, N.2.2.2.2)
def onY (f : Nat → Int32) (N : dN) (hs p q : Nat) : dN := (f 0 * 256 + f 1, thN f hs, fun h => if h < hs then f (3 + 3 * h) else N.2.2.1 h, fun h => if h < hs then f (4 + 3 * h) else N.2.2.2.1 h, fun a b => if min a b < max a b ∧ max a b < hs ∧ (min a b < p ∨ (min a b = p ∧ max a b < q)) then f (poI hs (min a b) (max a b)) else N.2.2.2.2 a b)
def onN (f : Nat → Int32) (N : dN) (hs : Nat) : dN := onY f N hs hs 0
theorem onY_set {f : Nat → Int32} {N : dN} {hs p q : Nat} (hpq : p < q) (hq : q < hs) : ∀ a b, (setH (onY f N hs p q) p q (f (poI hs p q))).2.2.2.2 a b = (onY f N hs p (q + 1)).2.2.2.2 a b := by
  intro a b
  show (if (a = p ∧ b = q) ∨ (a = q ∧ b = p) then f (poI hs p q) else (if min a b < max a b ∧ max a b < hs ∧ (min a b < p ∨ (min a b = p ∧ max a b < q)) then f (poI hs (min a b) (max a b)) else N.2.2.2.2 a b)) = (if min a b < max a b ∧ max a b < hs ∧ (min a b < p ∨ (min a b = p ∧ max a b < q + 1)) then f (poI hs (min a b) (max a b)) else N.2.2.2.2 a b)
  by_cases c : (a = p ∧ b = q) ∨ (a = q ∧ b = p)
  · have e1 : min a b = p := by omega
    have e2 : max a b = q := by omega
    rw [if_pos c, if_pos (by rw [e1, e2]; omega), e1, e2]
  · rw [if_neg c]
    by_cases c2 : min a b < max a b ∧ max a b < hs ∧ (min a b < p ∨ (min a b = p ∧ max a b < q))
    · rw [if_pos c2, if_pos (by omega)]
    · rw [if_neg c2, if_neg (by omega)]
theorem onY_row {f : Nat → Int32} {N : dN} {hs p : Nat} : ∀ a b, (onY f N hs p hs).2.2.2.2 a b = (onY f N hs (p + 1) (p + 2)).2.2.2.2 a b := by
  intro a b
  show (if min a b < max a b ∧ max a b < hs ∧ (min a b < p ∨ (min a b = p ∧ max a b < hs)) then f (poI hs (min a b) (max a b)) else N.2.2.2.2 a b) = (if min a b < max a b ∧ max a b < hs ∧ (min a b < p + 1 ∨ (min a b = p + 1 ∧ max a b < p + 2)) then f (poI hs (min a b) (max a b)) else N.2.2.2.2 a b)
  by_cases c2 : min a b < max a b ∧ max a b < hs ∧ (min a b < p ∨ (min a b = p ∧ max a b < hs))
  · rw [if_pos c2, if_pos (by omega)]
  · rw [if_neg c2, if_neg (by omega)]
theorem onY_0 {f : Nat → Int32} {N : dN} {hs q : Nat} (hq : q ≤ 1) : ∀ a b, (onY f N hs 0 q).2.2.2.2 a b = N.2.2.2.2 a b := by
  intro a b
  show (if min a b < max a b ∧ max a b < hs ∧ (min a b < 0 ∨ (min a b = 0 ∧ max a b < q)) then _ else _) = _
  rw [if_neg (by omega)]
theorem onY_q {f : Nat → Int32} {N : dN} {hs p q q' : Nat} (hq : q ≤ p + 1) (hq' : q' ≤ p + 1) : ∀ a b, (onY f N hs p q).2.2.2.2 a b = (onY f N hs p q').2.2.2.2 a b := by
  intro a b
  show (if min a b < max a b ∧ max a b < hs ∧ (min a b < p ∨ (min a b = p ∧ max a b < q)) then f (poI hs (min a b) (max a b)) else N.2.2.2.2 a b) = (if min a b < max a b ∧ max a b < hs ∧ (min a b < p ∨ (min a b = p ∧ max a b < q')) then f (poI hs (min a b) (max a b)) else N.2.2.2.2 a b)
  by_cases c2 : min a b < max a b ∧ max a b < hs ∧ (min a b < p ∨ (min a b = p ∧ max a b < q))
  · rw [if_pos c2, if_pos (by omega)]
  · rw [if_neg c2, if_neg (by omega)]
theorem onN_v {f : Nat → Int32} {U : dU} {N : dN} {L : Nat} (vu : vU U) (vn : vN U N) (hb : ∀ j, inI 0 255 (f j)) (hI : isImg f L U.2.1) : vN U (onN f N U.2.1) ∧ inI 0 999 (onN f N U.2.1).1 := by
  obtain ⟨i1, i2, i3, i4, i5⟩ := hI
  have eb := (byte2 (hb 0) (hb 1)).1
  have b0 := hb 0
  have b1 := hb 1
  have hd : inI 0 999 (f 0 * 256 + f 1) := by unfold inI at *; rw [eb]; omega
  have hval : ∀ a b, (onN f N U.2.1).2.2.2.2 a b = if min a b < max a b ∧ max a b < U.2.1 then f (poI U.2.1 (min a b) (max a b)) else N.2.2.2.2 a b := fun a b => by
    show (if min a b < max a b ∧ max a b < U.2.1 ∧ (min a b < U.2.1 ∨ (min a b = U.2.1 ∧ max a b < 0)) then f (poI U.2.1 (min a b) (max a b)) else N.2.2.2.2 a b) = _
    by_cases c : min a b < max a b ∧ max a b < U.2.1
    · rw [if_pos (by omega), if_pos c]
    · rw [if_neg (by omega), if_neg c]
  refine ⟨⟨?_, thN_lt f U.2.1, fun h => ?_, fun h => ?_, fun a b => ?_, fun a b => ?_, fun a => ?_, fun a b hp => ?_⟩, hd⟩
  · show inI 0 1100 (f 0 * 256 + f 1); unfold inI at *; omega
  · show inI 0 99 (if h < U.2.1 then f (3 + 3 * h) else N.2.2.1 h)
    by_cases c : h < U.2.1
    · rw [if_pos c]; have h1 := (i4 h c).2.1; have h2 := hb (3 + 3 * h); unfold inI at *; omega
    · rw [if_neg c]; exact vn.2.2.1 h
  · show inI 0 9 (if h < U.2.1 then f (4 + 3 * h) else N.2.2.2.1 h)
    by_cases c : h < U.2.1
    · rw [if_pos c]; have h1 := (i4 h c).2.2; have h2 := hb (4 + 3 * h); unfold inI at *; omega
    · rw [if_neg c]; exact vn.2.2.2.1 h
  · rw [hval]
    by_cases c : min a b < max a b ∧ max a b < U.2.1
    · rw [if_pos c]
      have h1 := i5 _ _ c.1 c.2
      have h2 := hb (poI U.2.1 (min a b) (max a b))
      unfold okP at h1
      unfold inI at *
      split at h1 <;> omega
    · rw [if_neg c]; exact vn.2.2.2.2.1 a b
  · rw [hval, hval, Nat.min_comm b a, Nat.max_comm b a, vn.2.2.2.2.2.1 a b]
  · rw [hval, if_neg (by omega)]; exact vn.2.2.2.2.2.2.1 a
  · rw [hval] at hp
    by_cases c : min a b < max a b ∧ max a b < U.2.1
    · rw [if_pos c] at hp
      have h1 := i5 _ _ c.1 c.2
      have hp' := i32_lt.mp hp
      have e0 : (0 : Int32).toInt = 0 := rfl
      unfold okP at h1
      have both : f (2 + 3 * min a b) = 1 ∧ f (2 + 3 * max a b) = 1 := by
        apply Decidable.byContradiction
        intro z
        rw [if_neg z] at h1
        omega
      have ht : ∀ x, x < U.2.1 → f (2 + 3 * x) = 1 → (onN f N U.2.1).2.1.testBit x = true := fun x hx hx1 => by
        show (thN f U.2.1).testBit x = true
        rw [thN_bit]; simp [hx, hx1]
      have h3 := ht _ (by omega) both.1
      have h4 := ht _ c.2 both.2
      by_cases o : a ≤ b
      · rw [Nat.min_eq_left o] at h3; rw [Nat.max_eq_right o] at h4; exact ⟨h3, h4⟩
      · rw [Nat.min_eq_right (by omega)] at h3; rw [Nat.max_eq_left (by omega)] at h4; exact ⟨h4, h3⟩
    · rw [if_neg c] at hp
      have := vn.2.2.2.2.2.2.2 a b hp
      have ha := bit_lt vn this.1
      have hb' := bit_lt vn this.2
      have : a = b := by omega
      subst this
      rw [vn.2.2.2.2.2.2.1 a] at hp
      exact absurd hp (by decide)
