/-! ===== the reference reads a test ===== -/
section
variable {T : dT} {tk q o d : Nat} {C S : List Nat} {M : mm_M} {K : mm_M → Prop}
theorem m_tE (hG : mm_G M.2.2) (h : mQs T tk q C S [] o M) (hb : C.length + S.length ≤ q) (hc : cnt S ≤ o) (h10 : ∀ v ∈ S, 10 ≤ v) (next : ∀ m', offM wQs M m' → tRl T tk (tsE q C S o) m' → mTm d K (tsE q C S o).1 m') : mTm d K 5 M := by
  have hbad : M.1 164 5 = 0 := by obtain ⟨p, h⟩ := h.1; exact h.2.1
  have hn : T.2 ≤ 1600 := by obtain ⟨p, h⟩ := h.1; exact h.1.2.1
  have hq := mLx_q h.1
  have ho6 := h.2.2.2.2.2.2.2.2.2.1
  have hlS := an S
  intro dd K' hK'
  have key : (if (M.1 164 5) = 0 then (mm_CI mX12_qIsOn (dd + 1) [.ref 164, .int 12] M (fun z10 m10 => if z10 = 0 then (K' m10) else (mm_CV mX12_qDrops (dd + 1) [.ref 164] (mm_uI m10 164 108 ((m10.1 164 108) - 1)) (fun m27 => jX12_qDropsNots_0 (dd + 1) m27 K')))) else (K' M)) := by
    refine ipos hbad (m_isOn (x := 12) hG h (by omega) (by omega) (fun z => ineg (by decide) ?_) (fun z => ipos rfl (hK' M hG hbad ?_)))
    · cases S with
      | nil => cases z
      | cons v S =>
        have hv : v = 12 := Option.some.inj (show some v = some 12 from z)
        have es : tsE q C (v :: S) o = (5, q, C ++ [v], S, o - 1) := by
          unfold tsE
          show (if v = 12 then _ else _) = _
          rw [if_pos hv]
        rw [es] at next
        rw [cnt_c, show isOp v = true from decide_eq_true (by omega), if_pos rfl] at hc
        have hb : C.length + (S.length + 1) ≤ q := hb
        rw [h.2.2.2.2.2.2.1, show nI o - 1 = nI (o - 1) from pk_sub (a := o) (b := 1) (by omega)]
        have o1 : offM wQs M (mm_uI M 164 108 (nI (o - 1))) := offM_uI (by unfold wQs; omega)
        refine m_qDropsP (d := dd) hG (mQs_o h (show o - 1 ≤ 6 by omega)) (by show C.length + ((S ++ []).length + 1) < 1690; rw [an]; omega) (fun m2 o2 s2 => ?_)
        exact (next m2 (offM_tr o1 o2) ⟨s2, by show (C ++ [v]).length + S.length ≤ q; rw [List.length_append]; show C.length + 1 + _ ≤ q; omega, by show cnt S ≤ o - 1; omega, fun x hx => h10 x (List.mem_cons_of_mem _ hx)⟩ dd K' hK').1
    · have es : tsE q C S o = (6, q, C, S, o) := by
        cases S with
        | nil => rfl
        | cons v S =>
          unfold tsE
          show (if v = 12 then _ else _) = _
          rw [if_neg (fun y => z (by show some v = some 12; rw [y]))]
      rw [es] at next
      exact next M offM_rf ⟨h, hb, hc, h10⟩
  exact ⟨lX12_qDropsNots_0 hG key, rX12_qDropsNots hG key⟩
theorem stR_mem : ∀ (F : List Nat) (f : Nat → Int32), stR F f → (∀ v ∈ F, v ≤ 61) → (25 ∈ F ↔ ∃ j, j < F.length ∧ f j = 25)
  | [], f, _, _ => ⟨fun z => (by cases z), fun z => (by obtain ⟨j, hj, -⟩ := z; cases hj)⟩
  | v :: F, f, h, hv => by
    have ih := stR_mem F f h.2 (fun x hx => hv x (List.mem_cons_of_mem _ hx))
    have hv1 := hv v List.mem_cons_self
    constructor
    · intro z
      rcases List.mem_cons.mp z with z | z
      · exact ⟨F.length, by show F.length < F.length + 1; omega, by rw [h.1, ← z]; rfl⟩
      · obtain ⟨j, h1, h2⟩ := ih.mp z
        exact ⟨j, by show j < F.length + 1; omega, h2⟩
    · rintro ⟨j, h1, h2⟩
      have h1 : j < F.length + 1 := h1
      by_cases e : j = F.length
      · subst e
        rw [h.1] at h2
        have : v = 25 := (nI_eq (b := 25) (by omega) (by decide)).mp h2
        rw [this]; exact List.mem_cons_self
      · exact List.mem_cons_of_mem _ (ih.mpr ⟨j, by omega, h2⟩)
theorem m_hasSq {K' : Int32 → mm_M → Prop} (hG : mm_G M.2.2) (h : mQs T tk q C S [] o M) (hb : S.length < 1690) (h1 : 25 ∈ S → K' 1 M) (h0 : ¬ 25 ∈ S → K' 0 M) : mm_CI mX12_qHasSquare d [.ref 164] M K' := by
  have h4 := h.2.2.2.1
  have h5 := h.2.2.2.2.1
  have h12 := h.2.2.2.2.2.2.2.2.2.2.2
  rw [List.append_nil] at h4 h5 h12
  have hm := stR_mem S (M.1 240) h5 (fun v hv => (h12 v hv).2)
  refine rX12_qHasSquare hG ?_
  have loop : ∀ (k j : Nat), j + k = S.length → (∀ i, i < j → ¬ M.1 240 i = 25) → jX12_qHasSquare_2 d M K' (nI j) := by
    intro k
    induction k with
    | zero =>
      intro j hj hi
      refine lX12_qHasSquare_2 hG ?_
      rw [h4]
      refine ipos (nI_le (by omega) (by omega)) (h0 (fun z => ?_))
      obtain ⟨i, i1, i2⟩ := hm.mp z
      exact hi i (by omega) i2
    | succ k ih =>
      intro j hj hi
      refine lX12_qHasSquare_2 hG ?_
      rw [h4, nI_clamp (by omega), nI_1]
      refine ineg (nI_ge (by omega) (by omega)) ⟨vp_in_nI (by omega) (by decide), ite_go (fun z => h1 (hm.mpr ⟨j, by omega, z⟩)) (fun z => ih (j + 1) (by omega) (fun i hij => ?_))⟩
      by_cases e : i = j
      · subst e; exact z
      · exact hi i (by omega)
  exact loop S.length 0 (by omega) (fun i hi => by omega)
theorem m_33 {K' : Int32 → mm_M → Prop} : ∀ (S C : List Nat) (m : mm_M), 25 ∈ S → mm_G m.2.2 → mQs T tk q C S [] o m → C.length + S.length < 1690 → (∀ m', offM wQs m m' → mQs T tk q (C ++ S.takeWhile is25) ((S.dropWhile is25).tail) [] (o - 1) m' → mm_CV mX12_qDropsNots (d + 11) [.ref 164] m' (fun m70 => jX12_qGoesOnTest_0 (d + 11) m70 K')) → 1 ≤ o → jX12_qGoesOnTest_33 (d + 11) m K' := by
  intro S
  induction S with
  | nil => intro C m hS; cases hS
  | cons x S ih =>
    intro C m hS hG h hb hK ho
    have ho6 := h.2.2.2.2.2.2.2.2.2.1
    have hb : C.length + (S.length + 1) < 1690 := hb
    have hl : (x :: S ++ []).length = S.length + 1 := by rw [an]; rfl
    refine lX12_qGoesOnTest_33 hG (m_isOn (x := 25) hG h (by omega) (by omega) (fun z => ineg (by decide) ?_) (fun z => ipos rfl ?_))
    · have hx : x = 25 := Option.some.inj (show some x = some 25 from z)
      have h25 : is25 x = false := decide_eq_false (fun y => y hx)
      rw [List.takeWhile_cons_of_neg (by rw [h25]; decide), List.dropWhile_cons_of_neg (by rw [h25]; decide), List.append_nil] at hK
      rw [h.2.2.2.1, hl, show nI (S.length + 1) - 1 = nI S.length from pk_sub (a := S.length + 1) (b := 1) (by omega), uI_j (j := 108) (by decide), h.2.2.2.2.2.2.1, show nI o - 1 = nI (o - 1) from pk_sub (a := o) (b := 1) (by omega)]
      have s2 := mQs_o (mQs_pop h) (show o - 1 ≤ 6 by omega)
      rw [an] at s2
      exact hK _ (offM_tr (offM_uI (by unfold wQs; omega)) (offM_uI (by unfold wQs; omega))) s2
    · have hx : x ≠ 25 := fun y => z (by show some x = some 25; rw [y])
      have h25 : is25 x = true := decide_eq_true hx
      have hS' : 25 ∈ S := by
        rcases List.mem_cons.mp hS with y | y
        · exact absurd y.symm hx
        · exact y
      refine m_qDropsP hG h (by omega) (fun m2 o2 s2 => ih (C ++ [x]) m2 hS' (by rw [o2.2.2]; exact hG) s2 (by rw [List.length_append]; show C.length + 1 + _ < _; omega) (fun m3 o3 s3 => hK m3 (offM_tr o2 o3) ?_) ho)
      rw [List.takeWhile_cons_of_pos h25, List.dropWhile_cons_of_pos h25]
      rw [List.append_assoc] at s3; exact s3
theorem m_87 {K' : Int32 → mm_M → Prop} : ∀ (S C : List Nat) (m : mm_M), mm_G m.2.2 → mQs T tk q C S [] o m → C.length + S.length < 1690 → (∀ m', offM wQs m m' → mQs T tk q (C ++ S.takeWhile is10) (10 :: S.dropWhile is10) [] o m' → K' 1 m') → jX12_qGoesOnTest_87 (d + 11) m K' := by
  intro S
  induction S with
  | nil =>
    intro C m hG h hb hK
    have hb : C.length + 0 < 1690 := hb
    refine lX12_qGoesOnTest_87 hG (m_isOn (x := 10) hG h (by show 0 < 1690; omega) (by omega) (fun z => by cases z) (fun _ => ipos rfl ?_))
    rw [h.2.2.2.1]
    have s2 := mQs_push (v := 10) h (by omega)
    refine ⟨vp_in_nI (n := 0) (by omega) (by decide), hK _ (offM_tr (offM_uI (by unfold wQs; omega)) (offM_uI (by unfold wQs; omega))) ?_⟩
    show mQs T tk q (C ++ []) [10] [] o _
    rw [List.append_nil, uI_c (by decide), h.2.2.2.1]
    exact s2
  | cons x S ih =>
    intro C m hG h hb hK
    have hb : C.length + (S.length + 1) < 1690 := hb
    have hl : (x :: S ++ []).length = S.length + 1 := by rw [an]; rfl
    refine lX12_qGoesOnTest_87 hG (m_isOn (x := 10) hG h (by omega) (by omega) (fun z => ineg (by decide) ?_) (fun z => ipos rfl ?_))
    · have hx : is10 x = true := decide_eq_true (Option.some.inj (show some x = some 10 from z))
      refine m_qDropsP hG h (by omega) (fun m2 o2 s2 => ih (C ++ [x]) m2 (by rw [o2.2.2]; exact hG) s2 (by rw [List.length_append]; show C.length + 1 + _ < _; omega) (fun m3 o3 s3 => hK m3 (offM_tr o2 o3) ?_))
      rw [List.takeWhile_cons_of_pos hx, List.dropWhile_cons_of_pos hx]
      rw [List.append_assoc] at s3; exact s3
    · have hx : is10 x = false := decide_eq_false (fun y => z (by show some x = some 10; rw [y]))
      have s2 := mQs_push (v := 10) h (by omega)
      rw [h.2.2.2.1, nI_clamp (by omega), uI_c (by decide), h.2.2.2.1, nI_1]
      refine ⟨vp_in_nI (by omega) (by decide), hK _ (offM_tr (offM_uI (by unfold wQs; omega)) (offM_uI (by unfold wQs; omega))) ?_⟩
      rw [List.takeWhile_cons_of_neg (by rw [hx]; decide), List.dropWhile_cons_of_neg (by rw [hx]; decide), List.append_nil]
      exact s2
theorem m_137 {K' : Int32 → mm_M → Prop} : ∀ (S C : List Nat) (m : mm_M), mm_G m.2.2 → mQs T tk q C S [] o m → C.length + S.length < 1690 → (∀ m', offM wQs m m' → mQs T tk q (C ++ S.takeWhile is11) (11 :: S.dropWhile is11) [] o m' → K' 1 m') → jX12_qGoesOnTest_137 (d + 11) m K' := by
  intro S
  induction S with
  | nil =>
    intro C m hG h hb hK
    refine lX12_qGoesOnTest_137 hG (m_isOn (x := 10) hG h (by show 0 < 1690; omega) (by omega) (fun z => by cases z) (fun _ => ipos rfl (m_isOn (x := 11) hG h (by show 0 < 1690; omega) (by omega) (fun z => by cases z) (fun _ => ipos rfl ?_))))
    rw [h.2.2.2.1]
    have s2 := mQs_push (v := 11) h (by omega)
    refine ⟨vp_in_nI (n := 0) (by omega) (by decide), hK _ (offM_tr (offM_uI (by unfold wQs; omega)) (offM_uI (by unfold wQs; omega))) ?_⟩
    show mQs T tk q (C ++ []) [11] [] o _
    rw [List.append_nil, uI_c (by decide), h.2.2.2.1]
    exact s2
  | cons x S ih =>
    intro C m hG h hb hK
    have hb : C.length + (S.length + 1) < 1690 := hb
    have hl : (x :: S ++ []).length = S.length + 1 := by rw [an]; rfl
    have drop : is11 x = true → mm_CV mX12_qDrops (d + 11) [.ref 164] m (fun m156 => jX12_qGoesOnTest_137 (d + 11) m156 K') := fun hx => by
      refine m_qDropsP hG h (by omega) (fun m2 o2 s2 => ih (C ++ [x]) m2 (by rw [o2.2.2]; exact hG) s2 (by rw [List.length_append]; show C.length + 1 + _ < _; omega) (fun m3 o3 s3 => hK m3 (offM_tr o2 o3) ?_))
      rw [List.takeWhile_cons_of_pos hx, List.dropWhile_cons_of_pos hx]
      rw [List.append_assoc] at s3; exact s3
    refine lX12_qGoesOnTest_137 hG (m_isOn (x := 10) hG h (by omega) (by omega) (fun z => ineg (by decide) (drop (decide_eq_true (Or.inl (Option.some.inj (show some x = some 10 from z)))))) (fun z => ipos rfl (m_isOn (x := 11) hG h (by omega) (by omega) (fun z2 => ineg (by decide) (drop (decide_eq_true (Or.inr (Option.some.inj (show some x = some 11 from z2)))))) (fun z2 => ipos rfl ?_))))
    have hx : is11 x = false := decide_eq_false (fun y => by
      rcases y with y | y
      · exact z (by show some x = some 10; rw [y])
      · exact z2 (by show some x = some 11; rw [y]))
    have s2 := mQs_push (v := 11) h (by omega)
    rw [h.2.2.2.1, nI_clamp (by omega), uI_c (by decide), h.2.2.2.1, nI_1]
    refine ⟨vp_in_nI (by omega) (by decide), hK _ (offM_tr (offM_uI (by unfold wQs; omega)) (offM_uI (by unfold wQs; omega))) ?_⟩
    rw [List.takeWhile_cons_of_neg (by rw [hx]; decide), List.dropWhile_cons_of_neg (by rw [hx]; decide), List.append_nil]
    exact s2
theorem m_110 : ∀ (S C : List Nat) (m : mm_M), mm_G m.2.2 → mQs T tk q C S [] o m → C.length + S.length < 1690 → (∀ m', offM wQs m m' → mQs T tk q (C ++ S) [] [] o m' → K m') → jX12_qTest_110 (d + 12) m K := by
  intro S
  induction S with
  | nil =>
    intro C m hG h hb hK
    have hbad : m.1 164 5 = 0 := by obtain ⟨p, h⟩ := h.1; exact h.2.1
    refine lX12_qTest_110 hG (ipos hbad ?_)
    rw [h.2.2.2.1]
    refine ipos (by decide) (hK m offM_rf ?_)
    rw [List.append_nil]; exact h
  | cons x S ih =>
    intro C m hG h hb hK
    have hbad : m.1 164 5 = 0 := by obtain ⟨p, h⟩ := h.1; exact h.2.1
    have hb : C.length + (S.length + 1) < 1690 := hb
    have hl : (x :: S ++ []).length = S.length + 1 := by rw [an]; rfl
    refine lX12_qTest_110 hG (ipos hbad ?_)
    rw [h.2.2.2.1, hl]
    refine ineg (nI_ge (b := S.length + 1) (a := 0) (by omega) (by omega)) (m_qDropsP hG h (by omega) (fun m2 o2 s2 => ih (C ++ [x]) m2 (by rw [o2.2.2]; exact hG) s2 (by rw [List.length_append]; show C.length + 1 + _ < _; omega) (fun m3 o3 s3 => hK m3 (offM_tr o2 o3) ?_)))
    rw [List.append_assoc] at s3; exact s3
end
