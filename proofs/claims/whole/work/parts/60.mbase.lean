/-! ===== the reference: its moment, its rules, leaves ===== -/
def pr (a b : Nat) : Nat := if a < b then a * (13 - a) / 2 + b - a - 1 else b * (13 - b) / 2 + a - b - 1
theorem pr_lt : ∀ a, a < 7 → ∀ b, b < 7 → a ≠ b → pr a b < 21 := by decide +kernel
theorem pr_sym : ∀ a, a < 7 → ∀ b, b < 7 → pr a b = pr b a := by decide +kernel
theorem pr_inj0 : ∀ x, x < 49 → ∀ y, y < 49 → (x / 7 ≠ x % 7 ∧ y / 7 ≠ y % 7 ∧ pr (x / 7) (x % 7) = pr (y / 7) (y % 7)) → ((x / 7 = y / 7 ∧ x % 7 = y % 7) ∨ (x / 7 = y % 7 ∧ x % 7 = y / 7)) := by decide +kernel
theorem pr_inj (a : Nat) (ha : a < 7) (b : Nat) (hb : b < 7) (p : Nat) (hp : p < 7) (q : Nat) (hq : q < 7) (hab : a ≠ b) (hpq : p ≠ q) (h : pr a b = pr p q) : (a = p ∧ b = q) ∨ (a = q ∧ b = p) := by
  have e1 : (7 * a + b) / 7 = a := by omega
  have e2 : (7 * a + b) % 7 = b := by omega
  have e3 : (7 * p + q) / 7 = p := by omega
  have e4 : (7 * p + q) % 7 = q := by omega
  have := pr_inj0 (7 * a + b) (by omega) (7 * p + q) (by omega)
  rw [e1, e2, e3, e4] at this
  exact this ⟨hab, hpq, h⟩
/-- the reference's moment (cell 199) is N -/
def mN (N : dN) (M : mm_M) : Prop := M.1 199 0 = N.1 ∧ (∀ h, h < 7 → M.1 199 (1 + 3 * h) = if N.2.1.testBit h then 1 else 0) ∧ (∀ h, h < 7 → M.1 199 (2 + 3 * h) = N.2.2.1 h) ∧ (∀ h, h < 7 → M.1 199 (3 + 3 * h) = N.2.2.2.1 h) ∧ (∀ a b, a < 7 → b < 7 → a ≠ b → M.1 199 (22 + pr a b) = N.2.2.2.2 a b)
/-- what goes without being told -/
def dfl (k : Nat) : List Int := if k = 0 then [10006] else if k = 1 then [10003] else if k = 2 then [10014, 5, -6] else if k = 3 then [10006] else [1]
/-- the reference's rules in force are U -/
def mU (U : dU) (M : mm_M) : Prop := M.1 191 2 = U.1 ∧ M.1 164 38 = nI U.2.1 ∧ (∀ h, h < U.2.1 → M.1 194 (7 + h) = U.2.2.1 h) ∧ ∀ k, k < 5 → (M.1 196 (5 + k) = -1 ∧ U.2.2.2 k = dfl k) ∨ ∃ f e : Nat, M.1 196 (5 + k) = nI f ∧ M.1 197 (5 + k) = nI e ∧ f + (U.2.2.2 k).length = e ∧ e ≤ 1600 ∧ ∀ j t, (U.2.2.2 k)[j]? = some t → vmc (M.1 198 (1600 + (f + j))).toInt ∧ tau (M.1 198 (1600 + (f + j))).toInt = t
theorem mU_off {W : Nat → Nat → Prop} {U : dU} {M m : mm_M} (h : mU U M) (ho : offM W M m) (hW : ∀ c j, W c j → ¬ (c = 191 ∨ c = 194 ∨ c = 196 ∨ c = 197 ∨ c = 198 ∨ (c = 164 ∧ j = 38))) : mU U m := by
  obtain ⟨h1, h2, h3, h4⟩ := h
  have g : ∀ c j, (c = 191 ∨ c = 194 ∨ c = 196 ∨ c = 197 ∨ c = 198 ∨ (c = 164 ∧ j = 38)) → m.1 c j = M.1 c j := fun c j q => ho.1 c j (fun z => hW c j z q)
  refine ⟨by rw [g _ _ (by omega)]; exact h1, by rw [g _ _ (by omega)]; exact h2, fun h hh => by rw [g _ _ (by omega)]; exact h3 h hh, fun k hk => ?_⟩
  rcases h4 k hk with ⟨q1, q2⟩ | ⟨f, e, q1, q2, q3, q4, q5⟩
  · exact Or.inl ⟨by rw [g _ _ (by omega)]; exact q1, q2⟩
  · exact Or.inr ⟨f, e, by rw [g _ _ (by omega)]; exact q1, by rw [g _ _ (by omega)]; exact q2, q3, q4, fun j t ht => by rw [g _ _ (by omega)]; exact q5 j t ht⟩
theorem mN_off {W : Nat → Nat → Prop} {N : dN} {M m : mm_M} (h : mN N M) (ho : offM W M m) (hW : ∀ c j, W c j → ¬ (c = 199 ∧ j < 43)) : mN N m := by
  obtain ⟨h1, h2, h3, h4, h5⟩ := h
  have g : ∀ j, j < 43 → m.1 199 j = M.1 199 j := fun j q => ho.1 199 j (fun z => hW 199 j z ⟨rfl, q⟩)
  exact ⟨by rw [g _ (by omega)]; exact h1, fun h hh => by rw [g _ (by omega)]; exact h2 h hh, fun h hh => by rw [g _ (by omega)]; exact h3 h hh, fun h hh => by rw [g _ (by omega)]; exact h4 h hh, fun a b ha hb hab => by rw [g _ (by have := pr_lt a ha b hb hab; omega)]; exact h5 a b ha hb hab⟩
theorem mx3 : ∀ i, i < 4 → ∀ h, h < 8 → nI i + 3 * nI h = nI (i + 3 * h) := by decide +kernel
theorem mx1 (h : Nat) (hh : h < 8) : (1 : Int32) + 3 * nI h = nI (1 + 3 * h) := mx3 1 (by decide) h hh
theorem mx2 (h : Nat) (hh : h < 8) : (2 : Int32) + 3 * nI h = nI (2 + 3 * h) := mx3 2 (by decide) h hh
theorem mx3' (h : Nat) (hh : h < 8) : (3 : Int32) + 3 * nI h = nI (3 + 3 * h) := mx3 3 (by decide) h hh
theorem m_houseMany {d : Nat} {M : mm_M} {K : Int32 → mm_M → Prop} (hG : mm_G M.2.2) (h : K (M.1 164 38) M) : mm_CI mX12_houseMany d [.ref 164] M K := rX12_houseMany hG h
theorem m_isThere {d h : Nat} {N : dN} {M : mm_M} {K : Int32 → mm_M → Prop} (hG : mm_G M.2.2) (hN : mN N M) (hh : h < 7) (hK : K (if N.2.1.testBit h then 1 else 0) M) : mm_CI mX12_isThere d [.ref 164, .int (nI h)] M K := by
  refine rX12_isThere hG ?_
  rw [mx1 h (by omega), nI_clamp (by omega), hN.2.1 h hh]
  refine ⟨vp_in_nI (by omega) (by decide), ?_⟩
  by_cases c : N.2.1.testBit h = true
  · rw [if_pos c] at hK ⊢; exact ipos rfl hK
  · rw [if_neg c] at hK ⊢; exact ineg (by decide) hK
theorem m_flourOf {d h : Nat} {N : dN} {M : mm_M} {K : Int32 → mm_M → Prop} (hG : mm_G M.2.2) (hN : mN N M) (hh : h < 7) (hK : K (N.2.2.1 h) M) : mm_CI mX12_flourOf d [.ref 164, .int (nI h)] M K := by
  refine rX12_flourOf hG ?_
  rw [mx2 h (by omega), nI_clamp (by omega), hN.2.2.1 h hh]
  exact ⟨vp_in_nI (by omega) (by decide), hK⟩
theorem m_hungerOf {d h : Nat} {N : dN} {M : mm_M} {K : Int32 → mm_M → Prop} (hG : mm_G M.2.2) (hN : mN N M) (hh : h < 7) (hK : K (N.2.2.2.1 h) M) : mm_CI mX12_hungerOf d [.ref 164, .int (nI h)] M K := by
  refine rX12_hungerOf hG ?_
  rw [mx3' h (by omega), nI_clamp (by omega), hN.2.2.2.1 h hh]
  exact ⟨vp_in_nI (by omega) (by decide), hK⟩
theorem pr_eq : ∀ a, a < 7 → ∀ b, b < 7 → a ≠ b → (if nI b ≤ nI a then (((((nI b * (13 - nI b)) / 2) + nI a) - nI b) - 1) else (((((nI a * (13 - nI a)) / 2) + nI b) - nI a) - 1)) = nI (pr a b) := by decide +kernel
theorem m_pairOf {d a b : Nat} {M : mm_M} {K : Int32 → mm_M → Prop} (hG : mm_G M.2.2) (ha : a < 7) (hb : b < 7) (hab : a ≠ b) (hK : K (nI (pr a b)) M) : mm_CI mX12_pairOf d [.int (nI a), .int (nI b)] M K := by
  refine rX12_pairOf hG ?_
  rw [← pr_eq a ha b hb hab] at hK
  by_cases c : nI b ≤ nI a
  · rw [if_pos c] at hK
    exact ipos c (ipos c (lX12_pairOf_21 hG hK))
  · rw [if_neg c] at hK
    exact ineg c (ineg c (lX12_pairOf_21 hG hK))
theorem n22 (k : Nat) : (22 : Int32) + nI k = nI (22 + k) := nI_add 22 k
theorem m_hateOf {d a b : Nat} {N : dN} {M : mm_M} {K : Int32 → mm_M → Prop} (hG : mm_G M.2.2) (hN : mN N M) (ha : a < 7) (hb : b < 7) (hab : a ≠ b) (hK : K (N.2.2.2.2 a b) M) : mm_CI mX12_hateOf (d + 1) [.ref 164, .int (nI a), .int (nI b)] M K := by
  refine rX12_hateOf hG (m_pairOf hG ha hb hab ?_)
  have hp := pr_lt a ha b hb hab
  rw [n22, nI_clamp (by omega), hN.2.2.2.2 a b ha hb hab]
  exact ⟨vp_in_nI (by omega) (by decide), hK⟩
theorem m_areEnemies {d a b : Nat} {U : dU} {N : dN} {M : mm_M} {K : Int32 → mm_M → Prop} (hG : mm_G M.2.2) (hN : mN N M) (vn : vN U N) (ha : a < 7) (hb : b < 7) (hK : K (if 0 < N.2.2.2.2 a b then 1 else 0) M) : mm_CI mX12_areEnemies (d + 2) [.ref 164, .int (nI a), .int (nI b)] M K := by
  refine rX12_areEnemies hG ?_
  by_cases c : a = b
  · subst c
    rw [vn.2.2.2.2.2.2.1 a] at hK
    exact ipos rfl hK
  · refine ineg (fun q => c ((nI_eq (by omega) (by omega)).mp q)) (m_hateOf hG hN ha hb c ?_)
    by_cases h : N.2.2.2.2 a b ≤ 0
    · rw [if_neg (Int32.not_lt.mpr h)] at hK; exact ipos h hK
    · rw [if_pos (Int32.not_le.mp h)] at hK; exact ineg h hK
theorem m_cut {d : Nat} {x : Int64} {M : mm_M} {K : Int32 → mm_M → Prop} (hG : mm_G M.2.2) (hK : K (bnd x.toInt) M) : mm_CI mX12_cut d [.long x] M K := by
  refine rX12_cut hG ?_
  have e0 : (0 : Int64).toInt = 0 := rfl
  have e9 : (99 : Int64).toInt = 99 := rfl
  unfold bnd at hK
  by_cases h0 : 0 ≤ x
  · have h0' := i64_le.mp h0
    rw [if_neg (by omega)] at hK
    refine ipos h0 ?_
    by_cases h9 : x ≤ 99
    · have h9' := i64_le.mp h9
      rw [if_neg (by omega)] at hK
      refine ipos h9 ?_
      have : x.toInt32 = Int32.ofInt x.toInt := Int32.toInt_inj.mp (by rw [Int64.toInt_toInt32, Int32.toInt_ofInt])
      rw [this]; exact hK
    · have h9' := mt i64_le.mpr h9
      rw [if_pos (by omega)] at hK
      exact ineg h9 hK
  · have h0' := mt i64_le.mpr h0
    rw [if_pos (by omega)] at hK
    exact ineg h0 hK
def wA (c j : Nat) : Prop := (c = 164 ∧ (j = 49 ∨ j = 52 ∨ j = 53 ∨ j = 54 ∨ j = 55 ∨ j = 111)) ∨ c = 241
theorem offM_uL {W : Nat → Nat → Prop} {M : mm_M} {a k : Nat} {x : Int64} (hW : W a k) : offM W M (mm_uL M a k x) := by
  refine ⟨fun c j q => rfl, fun c j q => ?_, rfl⟩
  show va_up M.2.1 a (vp_updL (M.2.1 a) k x) c j = _
  by_cases h : c = a
  · subst h
    rw [va_up_self, vp_updL, if_neg]
    intro e; subst e; exact q hW
  · rw [va_up_ne _ _ h]
theorem uL_at (M : mm_M) (a k : Nat) (x : Int64) : (mm_uL M a k x).2.1 a k = x := by
  show va_up M.2.1 a (vp_updL (M.2.1 a) k x) a k = x
  rw [va_up_self, vp_updL, if_pos rfl]
theorem offM_pq {W : Nat → Nat → Prop} {M : mm_M} {p : Nat → Int64} {n : Int32} (h1 : W 164 111) (h2 : ∀ j, W 241 j) : offM W M (mm_pq M p n) := by
  refine ⟨fun c j q => ?_, fun c j q => ?_, rfl⟩
  · by_cases h : c = 164
    · subst h
      by_cases hj : j = 111
      · subst hj; exact absurd h1 q
      · rw [pq_f _ _ _ hj]
    · rw [pq_c h]
  · by_cases h : c = 241
    · subst h; exact absurd (h2 j) q
    · rw [pq_l h]
/-- what a part of a row tells here -/
def mF (M : mm_M) (F : Nat → Option Int) : Prop := ∀ k v, F k = some v →
  (k = 2 ∧ ∃ b, b < 7 ∧ M.1 164 52 = nI b ∧ v = (M.1 199 (2 + 3 * b)).toInt) ∨ (k = 3 ∧ ∃ b, b < 7 ∧ M.1 164 52 = nI b ∧ v = (M.1 194 (7 + b)).toInt) ∨ (k = 14 ∧ ∃ e, e < 7 ∧ M.1 164 53 = nI e ∧ v = (M.1 199 (3 + 3 * e)).toInt) ∨ (k = 13 ∧ v = (M.1 199 0).toInt) ∨ (k = 6 ∧ v = (M.2.1 164 54).toInt) ∨ (k = 15 ∧ v = (M.1 164 55).toInt) ∨ (k = 16 ∧ v = (M.1 164 52).toInt) ∨ (k = 17 ∧ ∀ (d : Nat) (p : Nat → Int64) (n : Int32) (K : Int32 → mm_M → Prop), (∀ z : Int32, z.toInt = v → K z (mm_pq M p n)) → mm_CI mX12_enemyMany (d + 4) [.ref 164, .int (M.1 164 52)] (mm_pq M p n) K)
theorem n7 (k : Nat) : (7 : Int32) + nI k = nI (7 + k) := nI_add 7 k
theorem m_partOf {d : Nat} {M : mm_M} {F : Nat → Option Int} (hG : mm_G M.2.2) (hF : mF M F) : ∀ (x y : Int32) (v : Int), 0 ≤ x.toInt ∧ x.toInt ≤ 7 → F (wordOf x.toInt).toNat = some v → ∀ (p : Nat → Int64) (n : Int32) (K : Int64 → mm_M → Prop), (∀ z : Int64, z.toInt = v → K z (mm_pq M p n)) → mm_CL mX12_qPartOf (d + 5) [.ref 164, .int x, .int y] (mm_pq M p n) K := by
  intro x y v hx hv p n K hK
  have g52 : (mm_pq M p n).1 164 52 = M.1 164 52 := pq_f _ _ _ (by decide)
  have g53 : (mm_pq M p n).1 164 53 = M.1 164 53 := pq_f _ _ _ (by decide)
  have g55 : (mm_pq M p n).1 164 55 = M.1 164 55 := pq_f _ _ _ (by decide)
  have g54 : (mm_pq M p n).2.1 164 54 = M.2.1 164 54 := by rw [pq_l (by decide)]
  have g199 : (mm_pq M p n).1 199 = M.1 199 := pq_c (by decide)
  have g194 : (mm_pq M p n).1 194 = M.1 194 := pq_c (by decide)
  have hG' : mm_G (mm_pq M p n).2.2 := hG
  have lit : ∀ (k : Int32) (n : Int), k.toInt = n → (x = k ↔ x.toInt = n) := fun k n hk => by rw [i32_eq, hk]
  have cnv : ∀ z : Int32, z.toInt = v → K z.toInt64 (mm_pq M p n) := fun z hz => hK _ (by rw [Int32.toInt_toInt64]; exact hz)
  have h := hF _ _ hv
  refine rX12_qPartOf hG' ?_
  rw [g52, g53, g54, g55, g194, g199]
  by_cases c0 : x = 0
  · have e : (wordOf x.toInt).toNat = 2 := by rw [(lit 0 0 rfl).mp c0]; rfl
    rw [e] at h
    refine ipos c0 ?_
    rcases h with ⟨-, b, hb, h1, h2⟩ | ⟨q, -⟩ | ⟨q, -⟩ | ⟨q, -⟩ | ⟨q, -⟩ | ⟨q, -⟩ | ⟨q, -⟩ | ⟨q, -⟩
    · rw [h1]
      refine rX12_flourOf hG' ?_
      rw [mx2 b (by omega), nI_clamp (by omega), g199]
      exact ⟨vp_in_nI (by omega) (by decide), cnv _ h2.symm⟩
    all_goals exact absurd q (by decide)
  refine ineg c0 ?_
  by_cases c1 : x = 1
  · have e : (wordOf x.toInt).toNat = 3 := by rw [(lit 1 1 rfl).mp c1]; rfl
    rw [e] at h
    refine ipos c1 ?_
    rcases h with ⟨q, -⟩ | ⟨-, b, hb, h1, h2⟩ | ⟨q, -⟩ | ⟨q, -⟩ | ⟨q, -⟩ | ⟨q, -⟩ | ⟨q, -⟩ | ⟨q, -⟩
    · exact absurd q (by decide)
    · rw [h1, n7, nI_clamp (by omega)]
      exact ⟨vp_in_nI (by omega) (by decide), cnv _ h2.symm⟩
    all_goals exact absurd q (by decide)
  refine ineg c1 ?_
  by_cases c2 : x = 2
  · have e : (wordOf x.toInt).toNat = 14 := by rw [(lit 2 2 rfl).mp c2]; rfl
    rw [e] at h
    refine ipos c2 ?_
    rcases h with ⟨q, -⟩ | ⟨q, -⟩ | ⟨-, b, hb, h1, h2⟩ | ⟨q, -⟩ | ⟨q, -⟩ | ⟨q, -⟩ | ⟨q, -⟩ | ⟨q, -⟩
    · exact absurd q (by decide)
    · exact absurd q (by decide)
    · rw [h1]
      refine rX12_hungerOf hG' ?_
      rw [mx3' b (by omega), nI_clamp (by omega), g199]
      exact ⟨vp_in_nI (by omega) (by decide), cnv _ h2.symm⟩
    all_goals exact absurd q (by decide)
  refine ineg c2 ?_
  by_cases c3 : x = 3
  · have e : (wordOf x.toInt).toNat = 13 := by rw [(lit 3 3 rfl).mp c3]; rfl
    rw [e] at h
    refine ipos c3 ?_
    rcases h with ⟨q, -⟩ | ⟨q, -⟩ | ⟨q, -⟩ | ⟨-, h2⟩ | ⟨q, -⟩ | ⟨q, -⟩ | ⟨q, -⟩ | ⟨q, -⟩
    · exact absurd q (by decide)
    · exact absurd q (by decide)
    · exact absurd q (by decide)
    · exact cnv _ h2.symm
    all_goals exact absurd q (by decide)
  refine ineg c3 ?_
  by_cases c4 : x = 4
  · have e : (wordOf x.toInt).toNat = 6 := by rw [(lit 4 4 rfl).mp c4]; rfl
    rw [e] at h
    refine ipos c4 ?_
    rcases h with ⟨q, -⟩ | ⟨q, -⟩ | ⟨q, -⟩ | ⟨q, -⟩ | ⟨-, h2⟩ | ⟨q, -⟩ | ⟨q, -⟩ | ⟨q, -⟩
    · exact absurd q (by decide)
    · exact absurd q (by decide)
    · exact absurd q (by decide)
    · exact absurd q (by decide)
    · exact hK _ h2.symm
    all_goals exact absurd q (by decide)
  refine ineg c4 ?_
  by_cases c5 : x = 5
  · have e : (wordOf x.toInt).toNat = 15 := by rw [(lit 5 5 rfl).mp c5]; rfl
    rw [e] at h
    refine ipos c5 ?_
    rcases h with ⟨q, -⟩ | ⟨q, -⟩ | ⟨q, -⟩ | ⟨q, -⟩ | ⟨q, -⟩ | ⟨-, h2⟩ | ⟨q, -⟩ | ⟨q, -⟩
    · exact absurd q (by decide)
    · exact absurd q (by decide)
    · exact absurd q (by decide)
    · exact absurd q (by decide)
    · exact absurd q (by decide)
    · exact cnv _ h2.symm
    all_goals exact absurd q (by decide)
  refine ineg c5 ?_
  by_cases c6 : x = 6
  · have e : (wordOf x.toInt).toNat = 16 := by rw [(lit 6 6 rfl).mp c6]; rfl
    rw [e] at h
    refine ipos c6 ?_
    rcases h with ⟨q, -⟩ | ⟨q, -⟩ | ⟨q, -⟩ | ⟨q, -⟩ | ⟨q, -⟩ | ⟨q, -⟩ | ⟨-, h2⟩ | ⟨q, -⟩
    · exact absurd q (by decide)
    · exact absurd q (by decide)
    · exact absurd q (by decide)
    · exact absurd q (by decide)
    · exact absurd q (by decide)
    · exact absurd q (by decide)
    · exact cnv _ h2.symm
    · exact absurd q (by decide)
  refine ineg c6 ?_
  have e : (wordOf x.toInt).toNat = 17 := by
    have k0 := mt (lit 0 0 rfl).mpr c0
    have k1 := mt (lit 1 1 rfl).mpr c1
    have k2 := mt (lit 2 2 rfl).mpr c2
    have k3 := mt (lit 3 3 rfl).mpr c3
    have k4 := mt (lit 4 4 rfl).mpr c4
    have k5 := mt (lit 5 5 rfl).mpr c5
    have k6 := mt (lit 6 6 rfl).mpr c6
    have : x.toInt = 7 := by omega
    rw [this]; rfl
  rw [e] at h
  rcases h with ⟨q, -⟩ | ⟨q, -⟩ | ⟨q, -⟩ | ⟨q, -⟩ | ⟨q, -⟩ | ⟨q, -⟩ | ⟨q, -⟩ | ⟨-, h2⟩
  · exact absurd q (by decide)
  · exact absurd q (by decide)
  · exact absurd q (by decide)
  · exact absurd q (by decide)
  · exact absurd q (by decide)
  · exact absurd q (by decide)
  · exact absurd q (by decide)
  · exact h2 d p n _ (fun z hz => cnv z hz)
theorem m_isTold {d w : Nat} {M : mm_M} {K : Int32 → mm_M → Prop} (hG : mm_G M.2.2) (hw : w < 5) (hK : K (if M.1 196 (5 + w) = -1 then 0 else 1) M) : mm_CI mX12_isTold d [.ref 164, .int (nI w)] M K := by
  refine rX12_isTold hG ?_
  have e5 : 5 + nI w = nI (5 + w) := nI_add 5 w
  rw [e5, nI_clamp (by omega)]
  refine ⟨vp_in_nI (by omega) (by decide), ?_⟩
  by_cases c : M.1 196 (5 + w) = -1
  · rw [if_pos c] at hK; exact ipos c hK
  · rw [if_neg c] at hK; exact ineg c hK
/-- codesTell of a kind that is told -/
theorem m_codesTell {d w f e : Nat} {M : mm_M} {K : Int64 → mm_M → Prop} {F : Nat → Option Int} {al : List Nat} {b : Bool} {ts : List Int} (hG : mm_G M.2.2) (hw : w < 5) (h1 : M.1 196 (5 + w) = nI f) (h2 : M.1 197 (5 + w) = nI e) (h3 : f + ts.length = e) (h4 : e ≤ 1600) (h5 : ∀ j t, ts[j]? = some t → vmc (M.1 198 (1600 + (f + j))).toInt ∧ tau (M.1 198 (1600 + (f + j))).toInt = t) (hal : ∀ k ∈ al, ∃ v, F k = some v) (ho : okc al b ts) (hF : ∀ k v, F k = some v → okz v) (hM : ∀ m, offM (fun c j => (c = 164 ∧ (j = 49 ∨ j = 111)) ∨ c = 241) M m → mF m F) (hK : ∀ m (z : Int64), offM (fun c j => (c = 164 ∧ (j = 49 ∨ j = 111)) ∨ c = 241) M m → z.toInt = val F ts → K z m) : mm_CL mX12_codesTell (d + 6) [.ref 164, .int (nI w)] M K := by
  refine rX12_codesTell hG (rX12_kindOf hG ?_)
  have e5 : 5 + nI w = nI (5 + w) := nI_add 5 w
  have main : ∀ q : Int32, vp_in (5 + nI w) 10 ∧ jX12_codesTell_22 (d + 5) (nI w) (mm_uI (mm_uI M 164 49 q) 164 111 0) K (nI w) ((mm_uI (mm_uI M 164 49 q) 164 111 0).1 196 (5 + nI w).toNatClampNeg) := by
    intro q
    rw [e5, nI_clamp (by omega)]
    refine ⟨vp_in_nI (by omega) (by decide), ?_⟩
    have o1 : offM (fun c j => (c = 164 ∧ (j = 49 ∨ j = 111)) ∨ c = 241) M (mm_uI (mm_uI M 164 49 q) 164 111 0) := offM_tr (offM_uI (by omega)) (offM_uI (by omega))
    have g111 : (mm_uI (mm_uI M 164 49 q) 164 111 0).1 164 111 = nI 0 := uI_at _ _ _ _
    generalize mm_uI (mm_uI M 164 49 q) 164 111 0 = m at o1 g111 ⊢
    have hGm : mm_G m.2.2 := by rw [o1.2.2]; exact hG
    have r196 : ∀ j, m.1 196 j = M.1 196 j := fun j => o1.1 196 j (by omega)
    have r197 : ∀ j, m.1 197 j = M.1 197 j := fun j => o1.1 197 j (by omega)
    have r198 : ∀ j, m.1 198 j = M.1 198 j := fun j => o1.1 198 j (by omega)
    obtain ⟨⟨fl, ev⟩, -, -⟩ := okc_val ho hal hF
    rw [r196, h1]
    have hmF := hM m o1
    have := m_codes_loop (d := d + 4) (w := w) (e := e) (x1 := nI w) (M := m) (K := K) (F := F) (OF := fun _ _ => none) (v := val F ts) (fl := fl) hGm hw (by rw [r197]; exact h2) h4 hF (fun _ _ _ q => by cases q) (fun x v hx hv p n K hK => m_partOf (d := d) hGm hmF x _ v hx hv p n K hK) (fun p n z hz => hK _ z (offM_tr o1 (offM_pq (by omega) (by omega))) hz) ts [] f (m.2.1 241) h3 (fun j t ht => by rw [r198]; exact h5 j t ht) (fun q hq => by cases hq) trivial (by decide) ev
    have eid : mm_pq m (m.2.1 241) (nI ([] : List (Int × Bool)).length) = m := by
      show mm_pq m (m.2.1 241) (nI 0) = m
      rw [← g111]; exact pq_id m
    rw [eid] at this
    exact this
  by_cases c2 : 2 ≤ nI w
  · refine ipos c2 ?_
    by_cases c3 : nI w = 3
    · exact ipos c3 (main 2)
    · exact ineg c3 (main 1)
  · exact ineg c2 (main 0)
