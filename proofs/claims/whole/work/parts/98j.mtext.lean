/-! ===== the reference reads tokens ===== -/
def mTx (T : dT) (M : mm_M) : Prop := M.1 164 3 = nI T.2 ∧ T.2 ≤ 1600 ∧ ∀ j, j < T.2 → M.1 165 j = T.1 j
def enI (T : dT) (p : Nat) (M : mm_M) : Prop := (M.1 164 4 = -1 ∧ glu T p = false) ∨ ∃ e, e ≤ p ∧ M.1 164 4 = nI e ∧ (e = p ↔ glu T p = true)
/-- without a fault: it stands at p, the next token is at q -/
def mLp (T : dT) (p q : Nat) (M : mm_M) : Prop := mTx T M ∧ M.1 164 5 = 0 ∧ M.1 164 6 = -1 ∧ p ≤ T.2 ∧ M.1 164 2 = nI p ∧ rn T isBl p = q ∧ enI T p M
def mLx (T : dT) (q : Nat) (M : mm_M) : Prop := ∃ p, mLp T p q M
def mXs (k p : Nat) (M : mm_M) : Prop := M.1 164 5 = nI k ∧ M.1 164 6 = nI p ∧ 1 ≤ k ∧ k ≤ 5 ∧ p ≤ 1600
def wLx (c j : Nat) : Prop := c = 164 ∧ (j = 2 ∨ j = 4 ∨ j = 5 ∨ j = 6 ∨ j = 10)
theorem mXn0 {k p : Nat} {M : mm_M} (h : mXs k p M) : ¬ M.1 164 5 = 0 := by rw [h.1]; exact nI_n0 h.2.2.1 (by have := h.2.2.2.1; omega)
theorem mTx_off {W : Nat → Nat → Prop} {T : dT} {M m : mm_M} (h : mTx T M) (o : offM W M m) (hW : ∀ c j, W c j → ¬ ((c = 164 ∧ j = 3) ∨ c = 165)) : mTx T m :=
  ⟨by rw [o.1 _ _ (fun z => hW _ _ z (Or.inl ⟨rfl, rfl⟩))]; exact h.1, h.2.1, fun j hj => by rw [o.1 _ _ (fun z => hW _ _ z (Or.inr rfl))]; exact h.2.2 j hj⟩
theorem mLp_q {T : dT} {p q : Nat} {M : mm_M} (h : mLp T p q M) : p ≤ q ∧ q ≤ T.2 := by
  obtain ⟨-, -, -, h1, -, h2, -⟩ := h
  have := rn_p (P := isBl) h1
  rw [h2] at this
  exact ⟨this.1, this.2.1⟩
theorem mLx_q {T : dT} {q : Nat} {M : mm_M} (h : mLx T q M) : q ≤ T.2 := by
  obtain ⟨p, h⟩ := h
  exact (mLp_q h).2
theorem mLp_off {W : Nat → Nat → Prop} {T : dT} {p q : Nat} {M m : mm_M} (h : mLp T p q M) (o : offM W M m) (hW : ∀ c j, W c j → ¬ ((c = 164 ∧ 2 ≤ j ∧ j ≤ 6) ∨ c = 165)) : mLp T p q m := by
  obtain ⟨h1, h2, h3, h4, h5, h6, h7⟩ := h
  have g : ∀ j, 2 ≤ j → j ≤ 6 → m.1 164 j = M.1 164 j := fun j j1 j2 => o.1 _ _ (fun z => hW _ _ z (Or.inl ⟨rfl, j1, j2⟩))
  refine ⟨mTx_off h1 o (fun c j z y => hW c j z (by omega)), by rw [g 5 (by omega) (by omega)]; exact h2, by rw [g 6 (by omega) (by omega)]; exact h3, h4, by rw [g 2 (by omega) (by omega)]; exact h5, h6, ?_⟩
  unfold enI at h7 ⊢
  rw [g 4 (by omega) (by omega)]; exact h7
theorem mLx_off {W : Nat → Nat → Prop} {T : dT} {q : Nat} {M m : mm_M} (h : mLx T q M) (o : offM W M m) (hW : ∀ c j, W c j → ¬ ((c = 164 ∧ 2 ≤ j ∧ j ≤ 6) ∨ c = 165)) : mLx T q m := by
  obtain ⟨p, h⟩ := h
  exact ⟨p, mLp_off h o hW⟩
theorem mXs_off {W : Nat → Nat → Prop} {k p : Nat} {M m : mm_M} (h : mXs k p M) (o : offM W M m) (hW : ∀ c j, W c j → ¬ (c = 164 ∧ (j = 5 ∨ j = 6))) : mXs k p m :=
  ⟨by rw [o.1 _ _ (fun z => hW _ _ z ⟨rfl, Or.inl rfl⟩)]; exact h.1, by rw [o.1 _ _ (fun z => hW _ _ z ⟨rfl, Or.inr rfl⟩)]; exact h.2.1, h.2.2⟩
section
variable {T : dT} {q d : Nat} {M : mm_M}
theorem m_lookP {K : Int32 → mm_M → Prop} (hG : mm_G M.2.2) (h : mLx T q M) (hK : ∀ m, offM (fun c j => c = 164 ∧ j = 2) M m → mLp T q q m → K (if q < T.2 then T.1 q else -1) m) : mm_CI mX12_look d [.ref 164] M K := by
  have e10 : (10 : Int32).toInt = 10 := rfl
  have e32 : (32 : Int32).toInt = 32 := rfl
  have lab : ∀ (f p : Nat) (m : mm_M), T.2 - p < f → offM (fun c j => c = 164 ∧ j = 2) M m → mLp T p q m → (if (m.1 164 3) ≤ (m.1 164 2) then (if (m.1 164 3) ≤ (m.1 164 2) then (K (-1) m) else (vp_in (m.1 164 2) 1600 ∧ K (m.1 165 (m.1 164 2).toNatClampNeg) m)) else (vp_in (m.1 164 2) 1600 ∧ if (m.1 165 (m.1 164 2).toNatClampNeg) = 10 then (jX12_look_0 d (mm_uI m 164 2 ((m.1 164 2) + 1)) K) else (vp_in (m.1 164 2) 1600 ∧ if (m.1 165 (m.1 164 2).toNatClampNeg) = 32 then (jX12_look_0 d (mm_uI m 164 2 ((m.1 164 2) + 1)) K) else (if (m.1 164 3) ≤ (m.1 164 2) then (K (-1) m) else (vp_in (m.1 164 2) 1600 ∧ K (m.1 165 (m.1 164 2).toNatClampNeg) m))))) := by
    intro f
    induction f with
    | zero => intro p m hf; omega
    | succ f ih =>
      intro p m hf o hl
      obtain ⟨h1, h2, h3, h4, h5, h6, h7⟩ := id hl
      have hn := h1.2.1
      have hKm := hK m o
      rw [h1.1, h5, nI_clamp (by omega)]
      by_cases c : T.2 ≤ p
      · rw [rn_end c] at h6
        subst h6
        rw [if_neg (by omega)] at hKm
        exact ipos (nI_le c (by omega)) (ipos (nI_le c (by omega)) (hKm hl))
      · rw [h1.2.2 p (by omega), nI_1]
        rw [rn_lt (by omega)] at h6
        have go : isBl (T.1 p) = true → jX12_look_0 d (mm_uI m 164 2 (nI (p + 1))) K := fun hb => by
          rw [if_pos hb] at h6
          have o1 : offM (fun c j => c = 164 ∧ j = 2) m (mm_uI m 164 2 (nI (p + 1))) := offM_uI ⟨rfl, rfl⟩
          have hg : glu T (p + 1) = false := by
            have := bl_no hb
            unfold glu
            rw [show p + 1 - 1 = p by omega, this.1, this.2, Bool.or_self, Bool.and_false]
          have o2 := offM_tr o o1
          refine lX12_look_0 (by rw [o2.2.2]; exact hG) (ih (p + 1) _ (by omega) o2 ⟨mTx_off h1 o1 (fun c j z => by omega), by rw [o1.1 _ _ (by omega)]; exact h2, by rw [o1.1 _ _ (by omega)]; exact h3, by omega, uI_at _ _ _ _, h6, ?_⟩)
          unfold enI at h7 ⊢
          rw [o1.1 _ _ (by omega), hg]
          rcases h7 with ⟨z, -⟩ | ⟨e, z1, z2, -⟩
          · exact Or.inl ⟨z, rfl⟩
          · exact Or.inr ⟨e, by omega, z2, ⟨fun y => by omega, fun y => by cases y⟩⟩
        have stop : isBl (T.1 p) = false → K (T.1 p) m := fun hb => by
          rw [if_neg (by rw [hb]; decide)] at h6
          subst h6
          rw [if_pos (by omega)] at hKm
          exact hKm hl
        refine ineg (nI_ge (by omega) (by omega)) ⟨vp_in_nI (by omega) (by decide), ite_go (fun c1 => go ?_) (fun c1 => ⟨vp_in_nI (by omega) (by decide), ite_go (fun c2 => go ?_) (fun c2 => ineg (nI_ge (by omega) (by omega)) ⟨vp_in_nI (by omega) (by decide), stop ?_⟩)⟩)⟩
        · unfold isBl; exact decide_eq_true (Or.inl (by rw [c1]; rfl))
        · unfold isBl; exact decide_eq_true (Or.inr (by rw [c2]; rfl))
        · unfold isBl
          refine decide_eq_false (fun z => ?_)
          rcases z with z | z
          · exact c1 (i32_eq.mpr z)
          · exact c2 (i32_eq.mpr z)
  obtain ⟨p, h⟩ := h
  exact rX12_look hG (lab (T.2 - p + 1) p M (by omega) offM_rf h)
theorem m_isLetter {c : Int32} {K : Int32 → mm_M → Prop} (hG : mm_G M.2.2) (h1 : isLt c = true → K 1 M) (h0 : isLt c = false → K 0 M) : mm_CI mX12_isLetter d [.int c] M K := by
  have e97 : (97 : Int32).toInt = 97 := rfl
  have e122 : (122 : Int32).toInt = 122 := rfl
  unfold isLt at h1 h0
  refine rX12_isLetter hG (ite_go (fun c1 => h0 (decide_eq_false ?_)) (fun c1 => ite_go (fun c2 => h0 (decide_eq_false ?_)) (fun c2 => h1 (decide_eq_true ?_))))
  · have := i32_lt.mp c1; omega
  · have := i32_lt.mp c2; omega
  · have := mt i32_lt.mpr c1; have := mt i32_lt.mpr c2; omega
theorem m_isDigit {c : Int32} {K : Int32 → mm_M → Prop} (hG : mm_G M.2.2) (h1 : isDg c = true → K 1 M) (h0 : isDg c = false → K 0 M) : mm_CI mX12_isDigit d [.int c] M K := by
  have e97 : (48 : Int32).toInt = 48 := rfl
  have e122 : (57 : Int32).toInt = 57 := rfl
  unfold isDg at h1 h0
  refine rX12_isDigit hG (ite_go (fun c1 => h0 (decide_eq_false ?_)) (fun c1 => ite_go (fun c2 => h0 (decide_eq_false ?_)) (fun c2 => h1 (decide_eq_true ?_))))
  · have := i32_lt.mp c1; omega
  · have := i32_lt.mp c2; omega
  · have := mt i32_lt.mpr c1; have := mt i32_lt.mpr c2; omega
end
/-! which word it is, told by one word -/
theorem mtF_i {T : dT} : ∀ (w : List Int32) (p : Nat), mtF T w p = true ↔ ∀ (j : Nat) (x : Int32), w[j]? = some x → T.1 (p + j) = x
  | [], p => ⟨fun _ j x hx => (by cases hx), fun _ => rfl⟩
  | c :: w, p => by
    show (decide (T.1 p = c) && mtF T w (p + 1)) = true ↔ _
    rw [Bool.and_eq_true_iff, mtF_i w (p + 1)]
    constructor
    · rintro ⟨h1, h2⟩ j x hx
      cases j with
      | zero =>
        obtain rfl : c = x := Option.some.inj hx
        exact of_decide_eq_true h1
      | succ j =>
        rw [show p + (j + 1) = p + 1 + j by omega]
        exact h2 j x hx
    · intro h
      refine ⟨decide_eq_true (h 0 c rfl), fun j x hx => ?_⟩
      rw [show p + 1 + j = p + (j + 1) by omega]
      exact h (j + 1) x hx
theorem mtc_u {T : dT} {q : Nat} {w w' : List Int32} (h : mtc T q w = true) (h' : mtc T q w' = true) : w = w' := by
  unfold mtc at h h'
  rw [Bool.and_eq_true_iff] at h h'
  have l1 := of_decide_eq_true h.1
  have l2 := of_decide_eq_true h'.1
  have m1 := (mtF_i w q).mp h.2
  have m2 := (mtF_i w' q).mp h'.2
  apply List.ext_getElem?
  intro j
  by_cases hj : j < w.length
  · have e1 : w[j]? = some w[j] := List.getElem?_eq_getElem hj
    have e2 : w'[j]? = some (w'[j]'(by omega)) := List.getElem?_eq_getElem (by omega)
    rw [e1, e2, ← m1 j _ e1, ← m2 j _ e2]
  · rw [List.getElem?_eq_none (by omega), List.getElem?_eq_none (by omega)]
theorem wnF_ge {T : dT} {q : Nat} : ∀ (ws : List (List Int32)) (k : Nat), wnF T q ws k = -1 ∨ ∃ j, k ≤ j ∧ j < k + ws.length ∧ wnF T q ws k = nI j
  | [], k => Or.inl rfl
  | w :: ws, k => by
    have e : wnF T q (w :: ws) k = if mtc T q w then nI k else wnF T q ws (k + 1) := rfl
    rw [e]
    by_cases c : mtc T q w = true
    · rw [if_pos c]
      exact Or.inr ⟨k, Nat.le_refl _, by show k < k + (ws.length + 1); omega, rfl⟩
    · rw [if_neg c]
      rcases wnF_ge (T := T) (q := q) ws (k + 1) with h | ⟨j, h0, h1, h2⟩
      · exact Or.inl h
      · exact Or.inr ⟨j, by omega, by show j < k + (ws.length + 1); omega, h2⟩
theorem wnF_i {T : dT} {q : Nat} : ∀ (ws : List (List Int32)) (k : Nat), ws.Nodup → k + ws.length ≤ 30 → ∀ j, j < ws.length → (wnF T q ws k = nI (k + j) ↔ mtc T q (ws.getD j []) = true)
  | [], k, _, _, j, hj => by cases hj
  | w :: ws, k, hd, hk, j, hj => by
    have hk : k + (ws.length + 1) ≤ 30 := hk
    have hj : j < ws.length + 1 := hj
    obtain ⟨hd1, hd2⟩ := List.nodup_cons.mp hd
    have e : wnF T q (w :: ws) k = if mtc T q w then nI k else wnF T q ws (k + 1) := rfl
    rw [e]
    by_cases c : mtc T q w = true
    · rw [if_pos c]
      cases j with
      | zero => exact ⟨fun _ => c, fun _ => rfl⟩
      | succ j =>
        constructor
        · intro z
          have := (nI_eq (a := k) (b := k + (j + 1)) (by omega) (by omega)).mp z
          omega
        · intro z
          have e2 : (w :: ws).getD (j + 1) [] = ws.getD j [] := rfl
          rw [e2] at z
          have := mtc_u c z
          exfalso
          apply hd1
          rw [this, List.getD_eq_getElem?_getD, List.getElem?_eq_getElem (by omega)]
          exact List.getElem_mem _
    · rw [if_neg c]
      cases j with
      | zero =>
        constructor
        · intro z
          rcases wnF_ge (T := T) (q := q) ws (k + 1) with y | ⟨i, y0, y1, y2⟩
          · rw [y] at z; exact absurd z.symm (nI_nm1 (by omega))
          · rw [y2] at z
            have := (nI_eq (a := i) (b := k + 0) (by omega) (by omega)).mp z
            omega
        · intro z; exact absurd z c
      | succ j =>
        have := wnF_i (T := T) (q := q) ws (k + 1) hd2 (by omega) j (by omega)
        rw [show k + (j + 1) = k + 1 + j by omega]
        exact this
theorem wds_nd : wds.Nodup := by decide +kernel
theorem wdn_i {T : dT} {q k : Nat} (hk : k < 30) : wdn T q = nI k ↔ tkk T q = 1 ∧ mtc T q (wds.getD k []) = true := by
  unfold wdn
  by_cases c : tkk T q = 1
  · rw [if_pos c]
    have := wnF_i (T := T) (q := q) wds 0 wds_nd (by decide) k hk
    rw [Nat.zero_add] at this
    rw [this]
    exact ⟨fun z => ⟨c, z⟩, fun z => z.2⟩
  · rw [if_neg c]
    exact ⟨fun z => absurd z.symm (nI_nm1 (by omega)), fun z => absurd z.1 c⟩
section
variable {T : dT} {q d : Nat} {M : mm_M}
theorem mLk_en {m : mm_M} (h : mLp T q q m) : (m.1 164 2 = m.1 164 4 ↔ glu T q = true) := by
  obtain ⟨h1, h2, h3, h4, h5, h6, h7⟩ := h
  have hn := h1.2.1
  rw [h5]
  rcases h7 with ⟨z, y⟩ | ⟨e, z1, z2, z3⟩
  · rw [z, y]
    exact ⟨fun w => absurd w (nI_nm1 (by omega)), fun w => by cases w⟩
  · rw [z2, ← z3]
    exact ⟨fun w => ((nI_eq (by omega) (by omega)).mp w).symm, fun w => by rw [w]⟩
theorem m_isHere {c k : Nat} {K : Int32 → mm_M → Prop} (hG : mm_G M.2.2) (h : mLx T q M) (hk : k < 30) (hc : mm_SH[c]? = some (2, (wds.getD k []).length)) (hw : wOf M c k) (hc2 : c ≠ 164) (h1 : wdn T q = nI k → ∀ m, offM (fun c j => c = 164 ∧ j = 2) M m → mLp T q q m → K 1 m) (h0 : wdn T q ≠ nI k → ∀ m, offM (fun c j => c = 164 ∧ j = 2) M m → mLp T q q m → K 0 m) : mm_CI mX12_isHere (d + 1) [.ref 164, .ref c] M K := by
  have hq := mLx_q h
  have hbad : M.1 164 5 = 0 := by obtain ⟨p, h⟩ := h; exact h.2.1
  refine rX12_isHere hc hG (ipos hbad (m_lookP hG h (fun m o hl => ?_)))
  obtain ⟨a1, a2, a3, a4, a5, a6, a7⟩ := id hl
  have hn := a1.2.1
  have hGm : mm_G m.2.2 := by rw [o.2.2]; exact hG
  have no : wdn T q ≠ nI k → K 0 m := fun z => h0 z m o hl
  have hwm : wOf m c k := fun j x hx => by rw [o.1 _ _ (by omega)]; exact hw j x hx
  by_cases hqn : q < T.2
  · rw [if_pos hqn]
    refine m_isLetter hGm (fun hlt => ineg (by decide) (ite_go (fun cg => no (fun z => ?_)) (fun cg => ?_))) (fun hlt => ipos rfl (no (fun z => ?_)))
    · have hg := (mLk_en hl).mp cg
      have := ((wdn_i hk).mp z).1
      unfold tkk at this
      rw [if_neg (by omega), if_pos hg] at this
      exact absurd this (by decide)
    · have hg : glu T q = false := by
        cases hh : glu T q with
        | false => rfl
        | true => exact absurd ((mLk_en hl).mpr hh) cg
      have htk : tkk T q = 1 := by
        unfold tkk
        rw [if_neg (by omega), if_neg (by rw [hg]; decide)]
        exact knd_1.mpr hlt
      obtain ⟨r1, r2, r3, r4⟩ := rn_p (T := T) (P := isLt) hq
      have cmp : ∀ (f j : Nat), j + f = (wds.getD k []).length → q + (wds.getD k []).length = rn T isLt q → (∀ (i : Nat) (x : Int32), i < j → (wds.getD k [])[i]? = some x → T.1 (q + i) = x) → jX12_isHere_76 d c (wds.getD k []).length m K (nI j) := by
        intro f
        induction f with
        | zero =>
          intro j hj hlen hm
          obtain rfl : j = (wds.getD k []).length := by omega
          refine lX12_isHere_76 hc hGm (ipos (nI_le (Nat.le_refl _) (by omega)) (h1 ((wdn_i hk).mpr ⟨htk, ?_⟩) m o hl))
          unfold mtc
          rw [Bool.and_eq_true_iff]
          exact ⟨decide_eq_true hlen, (mtF_i _ _).mpr (fun i x hx => hm i x (List.getElem?_eq_some_iff.mp hx).1 hx)⟩
        | succ f ih =>
          intro j hj hlen hm
          have ex : (wds.getD k [])[j]? = some ((wds.getD k [])[j]'(by omega)) := List.getElem?_eq_getElem (by omega)
          refine lX12_isHere_76 hc hGm (ineg (nI_ge (by omega) (by omega)) ?_)
          rw [a5, nI_add, nI_clamp (n := q + j) (by omega), nI_clamp (n := j) (by omega), a1.2.2 _ (by omega), hwm j _ ex, nI_1]
          refine ⟨vp_in_nI (by omega) (by decide), vp_in_nI (by omega) (by omega), ite_go (fun e => ih (j + 1) (by omega) hlen (fun i x hi hx => ?_)) (fun e => no (fun z => e ?_))⟩
          · by_cases ei : i = j
            · subst ei
              rw [ex] at hx
              rw [e]; exact Option.some.inj hx
            · exact hm i x (by omega) hx
          · have := ((wdn_i hk).mp z).2
            unfold mtc at this
            rw [Bool.and_eq_true_iff] at this
            exact (mtF_i _ _).mp this.2 j _ ex
      have len : ∀ (y : Nat), y = rn T isLt q → (if (nI y - (m.1 164 2)) = nI (wds.getD k []).length then (jX12_isHere_76 d c (wds.getD k []).length m K 0) else K 0 m) := fun y hy => by
        have hl8 : (wds.getD k []).length ≤ 8 := by
          have : ∀ k, k < 30 → (wds.getD k []).length ≤ 8 := by decide +kernel
          exact this k hk
        rw [a5, hy, show nI (rn T isLt q) - nI q = nI (rn T isLt q - q) from pk_sub r1]
        refine ite_go (fun e => cmp (wds.getD k []).length 0 (by omega) ?_ (fun i x hi => by omega)) (fun e => no (fun z => e ?_))
        · have := (nI_eq (by omega) (by omega)).mp e
          omega
        · have := ((wdn_i hk).mp z).2
          unfold mtc at this
          rw [Bool.and_eq_true_iff] at this
          have := of_decide_eq_true this.1
          rw [← this, show q + (wds.getD k []).length - q = (wds.getD k []).length by omega]
      have run : ∀ (f y : Nat), y + f = T.2 → rn T isLt y = rn T isLt q → jX12_isHere_35 d c (wds.getD k []).length m K (nI y) := by
        intro f
        induction f with
        | zero =>
          intro y hy hr
          rw [rn_end (by omega)] at hr
          refine lX12_isHere_35 hc hGm ?_
          rw [a1.1]
          exact ipos (nI_le (by omega) (by omega)) (len y hr)
        | succ f ih =>
          intro y hy hr
          rw [rn_lt (by omega)] at hr
          refine lX12_isHere_35 hc hGm ?_
          rw [a1.1, nI_clamp (by omega), a1.2.2 y (by omega), nI_1]
          refine ineg (nI_ge (by omega) (by omega)) ⟨vp_in_nI (by omega) (by decide), m_isLetter hGm (fun hly => ineg (by decide) (ih (y + 1) (by omega) ?_)) (fun hly => ipos rfl (len y ?_))⟩
          · rw [if_pos hly] at hr; exact hr
          · rw [if_neg (by rw [hly]; decide)] at hr; exact hr
      rw [a5]
      exact run (T.2 - q) q (by omega) rfl
    · have := ((wdn_i hk).mp z).1
      rcases tkk_c T q with ⟨b1, b2, b3⟩ | ⟨b1, b2, b3, b4, b5⟩ | ⟨b1, b2, b3, b4, b5⟩ | ⟨b1, b2, b3, b4⟩
      · rw [b1] at this; exact absurd this (by decide)
      · rw [hlt] at b4; exact absurd b4 (by decide)
      · rw [b1] at this; exact absurd this (by decide)
      · rw [b1] at this; exact absurd this (by decide)
  · rw [if_neg hqn]
    have hm1 : isLt (-1) = false := by decide
    refine m_isLetter hGm (fun z => by rw [hm1] at z; exact absurd z (by decide)) (fun _ => ipos rfl (no (fun z => ?_)))
    have := ((wdn_i hk).mp z).1
    unfold tkk at this
    rw [if_pos (by omega)] at this
    exact absurd this (by decide)
theorem m_isHereX {c n k p : Nat} {K : Int32 → mm_M → Prop} (hG : mm_G M.2.2) (h : mXs k p M) (hc : mm_SH[c]? = some (2, n)) (hK : K 0 M) : mm_CI mX12_isHere (d + 1) [.ref 164, .ref c] M K := rX12_isHere hc hG (ineg (mXn0 h) hK)
/-- behind a word or a number -/
theorem mLp_on {p : Nat} {m m' : mm_M} (h : mLp T q q m) (hp : p = ten T q) (ht : tkk T q = 1 ∨ tkk T q = 2) (o : offM (fun c j => c = 164 ∧ (j = 2 ∨ j = 4 ∨ j = 10)) m m') (h2 : m'.1 164 2 = nI p) (h4 : m'.1 164 4 = nI p) : mLp T p (nxt T q) m' := by
  obtain ⟨a1, a2, a3, a4, a5, a6, a7⟩ := h
  have hb := ten_b a4
  refine ⟨mTx_off a1 o (fun c j z => by omega), by rw [o.1 _ _ (by omega)]; exact a2, by rw [o.1 _ _ (by omega)]; exact a3, by omega, h2, by rw [hp]; rfl, Or.inr ⟨p, Nat.le_refl _, h4, ⟨fun _ => ?_, fun _ => rfl⟩⟩⟩
  rcases tkk_c T q with ⟨b1, b2, b3⟩ | ⟨b1, b2, b3, b4, b5⟩ | ⟨b1, b2, b3, b4, b5⟩ | ⟨b1, b2, b3, b4⟩
  · rw [b1] at ht; rcases ht with z | z <;> exact absurd z (by decide)
  · have := hb.2.2 b2
    have hl := (rn_p (T := T) (P := isLt) a4).2.2.2 (p - 1) (by omega) (by omega)
    unfold glu
    rw [hl, decide_eq_true (by omega : 0 < p)]; rfl
  · have := hb.2.2 b2
    have hl := (rn_p (T := T) (P := isDg) a4).2.2.2 (p - 1) (by omega) (by omega)
    unfold glu
    rw [hl, decide_eq_true (by omega : 0 < p), Bool.or_true]; rfl
  · rw [b1] at ht; rcases ht with z | z <;> exact absurd z (by decide)
theorem m_takesW {c k : Nat} {K : Int32 → mm_M → Prop} (hG : mm_G M.2.2) (h : mLx T q M) (hk : k < 30) (hc : mm_SH[c]? = some (2, (wds.getD k []).length)) (hw : wOf M c k) (hc2 : c ≠ 164) (h1 : wdn T q = nI k → ∀ m, offM wLx M m → mLx T (nxt T q) m → K 1 m) (h0 : wdn T q ≠ nI k → ∀ m, offM wLx M m → mLp T q q m → K 0 m) : mm_CI mX12_takes (d + 2) [.ref 164, .ref c] M K := by
  refine rX12_takes hc hG (m_isHere hG h hk hc hw hc2 (fun z m o hl => ineg (by decide) ?_) (fun z m o hl => ipos rfl (h0 z m (offM_mono o (fun c j y => by unfold wLx; omega)) hl)))
  obtain ⟨a1, a2, a3, a4, a5, a6, a7⟩ := id hl
  have hn := a1.2.1
  obtain ⟨y1, y2⟩ := (wdn_i hk).mp z
  have et : ten T q = q + (wds.getD k []).length := by
    unfold mtc at y2
    rw [Bool.and_eq_true_iff] at y2
    have := of_decide_eq_true y2.1
    rw [this]
    unfold ten
    rw [y1]; rfl
  have hb := ten_b a4
  rw [a5, nI_add, uI_at]
  have o2 : offM (fun c j => c = 164 ∧ (j = 2 ∨ j = 4 ∨ j = 10)) m (mm_uI (mm_uI m 164 2 (nI (q + (wds.getD k []).length))) 164 4 (nI (q + (wds.getD k []).length))) := offM_tr (offM_uI (by omega)) (offM_uI (by omega))
  exact h1 z _ (offM_tr (offM_mono o (fun c j y => by unfold wLx; omega)) (offM_mono o2 (fun c j y => by unfold wLx; omega))) ⟨_, mLp_on hl et.symm (Or.inl y1) o2 (by rw [uI_j (by decide), uI_at]) (uI_at _ _ _ _)⟩
theorem m_failP {k p : Nat} {K : mm_M → Prop} (hG : mm_G M.2.2) (h : M.1 164 5 = 0) (hk : 1 ≤ k ∧ k ≤ 5) (hp : p ≤ 1600) (hK : ∀ m, offM wLx M m → mXs k p m → K m) : mm_CV mX12_fail d [.ref 164, .int (nI k), .int (nI p)] M K :=
  rX12_fail hG (ipos h (hK _ (offM_tr (offM_uI (by unfold wLx; omega)) (offM_uI (by unfold wLx; omega))) ⟨by rw [uI_j (by decide)]; exact uI_at _ _ _ _, uI_at _ _ _ _, hk.1, hk.2, hp⟩))
theorem m_asksW {c k : Nat} {K : mm_M → Prop} (hG : mm_G M.2.2) (h : mLx T q M) (hk : k < 30) (hc : mm_SH[c]? = some (2, (wds.getD k []).length)) (hw : wOf M c k) (hc2 : c ≠ 164) (h1 : wdn T q = nI k → ∀ m, offM wLx M m → mLx T (nxt T q) m → K m) (h0 : wdn T q ≠ nI k → ∀ m, offM wLx M m → mXs 1 q m → K m) : mm_CV mX12_asks (d + 3) [.ref 164, .ref c] M K := by
  have hbad : M.1 164 5 = 0 := by obtain ⟨p, h⟩ := h; exact h.2.1
  refine rX12_asks hc hG (ipos hbad (m_takesW hG h hk hc hw hc2 (fun z m o hl => ineg (by decide) (h1 z m o hl)) (fun z m o hl => ipos rfl ?_)))
  have hn := hl.1.2.1
  have := hl.2.2.2.1
  rw [hl.2.2.2.2.1]
  exact m_failP (k := 1) (by rw [o.2.2]; exact hG) hl.2.1 (by omega) (by omega) (fun m2 o2 x => h0 z m2 (offM_tr o o2) x)
theorem isS_p {c : Int32} (hc : knd c = 3) : isS T q c = true ↔ q < T.2 ∧ T.1 q = c := by
  constructor
  · intro h; exact ⟨(isS_lt h).1, (isS_lt h).2.1⟩
  · rintro ⟨h1, h2⟩
    unfold isS
    refine decide_eq_true ⟨?_, h2⟩
    unfold tkk
    rw [if_neg (by omega), h2, hc]
    split <;> rfl
theorem m_takesS {c : Int32} {K : Int32 → mm_M → Prop} (hG : mm_G M.2.2) (h : mLx T q M) (hc : knd c = 3) (hc1 : c ≠ -1) (h1 : isS T q c = true → ∀ m, offM wLx M m → mLp T (q + 1) (nxt T q) m → K 1 m) (h0 : isS T q c = false → ∀ m, offM wLx M m → mLp T q q m → K 0 m) : mm_CI mX12_takesSign (d + 1) [.ref 164, .int c] M K := by
  have hbad : M.1 164 5 = 0 := by obtain ⟨p, h⟩ := h; exact h.2.1
  refine rX12_takesSign hG (ipos hbad (m_lookP hG h (fun m o hl => ?_)))
  have o' : offM wLx M m := offM_mono o (fun c j y => by unfold wLx; omega)
  obtain ⟨a1, a2, a3, a4, a5, a6, a7⟩ := id hl
  have hn := a1.2.1
  refine ite_go (fun e => ?_) (fun e => h0 ?_ m o' hl)
  · have hs : isS T q c = true := by
      by_cases z : q < T.2
      · rw [if_pos z] at e; exact (isS_p hc).mpr ⟨z, e⟩
      · rw [if_neg z] at e; exact absurd e.symm hc1
    obtain ⟨y1, y2, y3⟩ := isS_lt hs
    have et : ten T q = q + 1 := by unfold ten; rw [y3]; rfl
    have o2 : offM (fun c j => c = 164 ∧ j = 2) m (mm_uI m 164 2 ((m.1 164 2) + 1)) := offM_uI ⟨rfl, rfl⟩
    refine h1 hs _ (offM_tr o' (offM_mono o2 (fun c j y => by unfold wLx; omega))) ⟨mTx_off a1 o2 (fun c j z => by omega), by rw [o2.1 _ _ (by omega)]; exact a2, by rw [o2.1 _ _ (by omega)]; exact a3, by omega, by rw [uI_at, a5, nI_1], by unfold nxt; rw [et], ?_⟩
    have hg : glu T (q + 1) = false := by
      have := knd_3.mp hc
      unfold glu
      rw [show q + 1 - 1 = q by omega, y2, this.1, this.2, Bool.or_self, Bool.and_false]
    unfold enI at a7 ⊢
    rw [o2.1 _ _ (by omega), hg]
    rcases a7 with ⟨z, -⟩ | ⟨e, z1, z2, -⟩
    · exact Or.inl ⟨z, rfl⟩
    · exact Or.inr ⟨e, by omega, z2, ⟨fun y => by omega, fun y => by cases y⟩⟩
  · cases hh : isS T q c with
    | false => rfl
    | true =>
      obtain ⟨z1, z2⟩ := (isS_p hc).mp hh
      rw [if_pos z1] at e
      exact absurd z2 e
theorem m_asksS {c : Int32} {K : mm_M → Prop} (hG : mm_G M.2.2) (h : mLx T q M) (hc : knd c = 3) (hc1 : c ≠ -1) (h1 : isS T q c = true → ∀ m, offM wLx M m → mLx T (nxt T q) m → K m) (h0 : isS T q c = false → ∀ m, offM wLx M m → mXs 1 q m → K m) : mm_CV mX12_asksSign (d + 2) [.ref 164, .int c] M K := by
  have hbad : M.1 164 5 = 0 := by obtain ⟨p, h⟩ := h; exact h.2.1
  refine rX12_asksSign hG (ipos hbad (m_takesS hG h hc hc1 (fun z m o hl => ineg (by decide) (h1 z m o ⟨_, hl⟩)) (fun z m o hl => ipos rfl ?_)))
  have hn := hl.1.2.1
  have := hl.2.2.2.1
  rw [hl.2.2.2.2.1]
  exact m_failP (k := 1) (by rw [o.2.2]; exact hG) hl.2.1 (by omega) (by omega) (fun m2 o2 x => h0 z m2 (offM_tr o o2) x)
theorem m_asksSX {c : Int32} {k p : Nat} {K : mm_M → Prop} (hG : mm_G M.2.2) (h : mXs k p M) (hK : K M) : mm_CV mX12_asksSign (d + 1) [.ref 164, .int c] M K := rX12_asksSign hG (ineg (mXn0 h) hK)
theorem m_asksX {c n k p : Nat} {K : mm_M → Prop} (hG : mm_G M.2.2) (h : mXs k p M) (hc : mm_SH[c]? = some (2, n)) (hK : K M) : mm_CV mX12_asks (d + 1) [.ref 164, .ref c] M K := rX12_asks hc hG (ineg (mXn0 h) hK)
theorem m_takesX {c n k p : Nat} {K : Int32 → mm_M → Prop} (hG : mm_G M.2.2) (h : mXs k p M) (hc : mm_SH[c]? = some (2, n)) (hK : K 0 M) : mm_CI mX12_takes (d + 2) [.ref 164, .ref c] M K := rX12_takes hc hG (m_isHereX hG h hc (ipos rfl hK))
theorem m_numX {x y : Int32} {k p : Nat} {K : Int32 → mm_M → Prop} (hG : mm_G M.2.2) (h : mXs k p M) (hK : K 0 M) : mm_CI mX12_number (d + 1) [.ref 164, .int x, .int y] M K := rX12_number hG (ineg (mXn0 h) hK)
end
