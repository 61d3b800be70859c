/-! ===== the reference follows the machine of sums: behind a part ===== -/
section
variable {T : dT} {tk q o d e : Nat} {C S B : List Nat} {M : mm_M} {K : mm_M → Prop} {y : Int32}
theorem mQs_pop {v : Nat} (h : mQs T tk q C (v :: S) B o M) : mQs T tk q C S B o (mm_uI M 164 107 (nI (S ++ B).length)) := by
  obtain ⟨h1, h2, h3, h4, h5, h6, h7, h8, h9, h10, h11, h12⟩ := h
  have h5 : M.1 240 (S ++ B).length = nI v ∧ stR (S ++ B) (M.1 240) := h5
  have o' : offM (fun c j => c = 164 ∧ j = 107) M (mm_uI M 164 107 (nI (S ++ B).length)) := offM_uI ⟨rfl, rfl⟩
  exact ⟨mLx_off h1 o' (fun c j z => by omega), by rw [o'.1 _ _ (by omega)]; exact h2, fun j c hc => by rw [o'.1 _ _ (by omega)]; exact h3 j c hc, uI_at _ _ _ _, h5.2, by rw [o'.1 _ _ (by omega)]; exact h6, by rw [o'.1 _ _ (by omega)]; exact h7, by rw [o'.1 _ _ (by omega)]; exact h8, h9, h10, mWd_off h11 (offA_M o') (fun c j z => by omega), fun x hx => h12 x (List.mem_cons_of_mem _ hx)⟩
theorem m_stepE (hG : mm_G M.2.2) (h : mQs T tk q C S B o M) (hb : C.length + (S ++ B).length + e ≤ q) (hc : cnt (S ++ B) ≤ o) (next : ∀ m', offM wQs M m' → mRl T tk e B (smE q C S o) m' → mSm d K y (smE q C S o).1 m') : mSm d K y 1 M := by
  have hbad : M.1 164 5 = 0 := by obtain ⟨p, h⟩ := h.1; exact h.2.1
  have hn : T.2 ≤ 1600 := by obtain ⟨p, h⟩ := h.1; exact h.1.2.1
  have hq := mLx_q h.1
  have ho6 := h.2.2.2.2.2.2.2.2.2.1
  intro K' hK'
  have key : (if (M.1 164 5) = 0 then (if (M.1 164 107) ≤ (M.1 164 109) then (K' M) else (vp_in ((M.1 164 107) - 1) 1700 ∧ if (M.1 240 ((M.1 164 107) - 1).toNatClampNeg) < 60 then (K' M) else (mm_CV mX12_qDrops (d + 8) [.ref 164] (mm_uI M 164 108 ((M.1 164 108) - 1)) (fun m45 => jX12_qEndsPart_0 (d + 8) m45 K')))) else (K' M)) := by
    refine ipos hbad ?_
    rw [h.2.2.2.1, h.2.2.2.2.2.1, h.2.2.2.2.2.2.1]
    cases S with
    | nil => exact ipos (nI_le (Nat.le_refl _) (by have : C.length + B.length + e ≤ q := hb; omega)) (hK' M hG hbad (next M offM_rf ⟨h, hb, hc⟩))
    | cons v S =>
      have el : (v :: S ++ B).length = (S ++ B).length + 1 := rfl
      have h5 : M.1 240 (S ++ B).length = nI v ∧ stR (S ++ B) (M.1 240) := h.2.2.2.2.1
      have hv := h.2.2.2.2.2.2.2.2.2.2.2 v List.mem_cons_self
      have hbl : B.length ≤ (S ++ B).length := by rw [List.length_append]; omega
      have hc' : cnt (v :: (S ++ B)) ≤ o := hc
      rw [cnt_c] at hc'
      rw [el] at hb ⊢
      rw [show nI ((S ++ B).length + 1) - 1 = nI (S ++ B).length from pk_sub (a := (S ++ B).length + 1) (b := 1) (by omega), nI_clamp (by omega), h5.1]
      refine ineg (nI_ge (by omega) (by omega)) ⟨vp_in_nI (by omega) (by decide), ?_⟩
      have es : smE q C (v :: S) o = if 60 ≤ v then (1, q, C ++ [v], S, o - 1) else (2, q, C, v :: S, o) := rfl
      rw [es] at next
      by_cases c : 60 ≤ v
      · rw [if_pos c] at next
        have hop : isOp v = true := decide_eq_true (by omega)
        rw [hop, if_pos rfl] at hc'
        refine ineg (nI_nlt (b := 60) c (by omega)) ?_
        rw [show nI o - 1 = nI (o - 1) from pk_sub (a := o) (b := 1) (by omega)]
        have o1 : offM wQs M (mm_uI M 164 108 (nI (o - 1))) := offM_uI (by unfold wQs; omega)
        refine m_qDropsP (d := d + 7) hG (mQs_o h (show o - 1 ≤ 6 by omega)) (by rw [el]; omega) (fun m2 o2 s2 => ?_)
        have nx := next m2 (offM_tr o1 o2) ⟨s2, by show (C ++ [v]).length + (S ++ B).length + e ≤ q; rw [List.length_append]; show C.length + 1 + _ + e ≤ q; omega, by show cnt (S ++ B) ≤ o - 1; omega⟩
        exact (nx K' hK').1
      · rw [if_neg c] at next
        exact ipos (nI_lt (b := 60) (by omega) (by decide)) (hK' M hG hbad (next M offM_rf ⟨h, by show C.length + (v :: S ++ B).length + e ≤ q; rw [el]; omega, hc⟩))
  exact ⟨lX12_qEndsPart_0 hG key, rX12_qEndsPart hG key⟩
/-- behind operators: those that bind as much or more are told -/
theorem m_162 {v : Nat} {K' : Int32 → mm_M → Prop} (hB : ∀ x, B.head? = some x → 10 ≤ x) (hv : 1 ≤ v ∧ v ≤ 61) : ∀ (S C : List Nat) (m : mm_M), mm_G m.2.2 → mQs T tk q C S B o m → C.length + (S ++ B).length < 1690 → (∀ m', offM wQs m m' → mQs T tk q (C ++ S.takeWhile isMu) (v :: S.dropWhile isMu) B o m' → K' 1 m') → jX12_qGoesOn_162 (d + 1) m K' (nI v) := by
  intro S
  induction S with
  | nil =>
    intro C m hG h hb hK
    have nB : ∀ x : Nat, x < 10 → ([] ++ B : List Nat).head? = some x → False := fun x hx z => by have := hB x z; omega
    refine lX12_qGoesOn_162 hG (m_isOn (x := 3) hG h (by omega) (by omega) (fun z => (nB 3 (by omega) z).elim) (fun _ => ipos rfl (m_isOn (x := 4) hG h (by omega) (by omega) (fun z => (nB 4 (by omega) z).elim) (fun _ => ipos rfl ?_))))
    rw [h.2.2.2.1, nI_clamp (by omega), uI_c (by decide), h.2.2.2.1, nI_1]
    refine ⟨vp_in_nI (by omega) (by decide), hK _ (offM_tr (offM_uI (by unfold wQs; omega)) (offM_uI (by unfold wQs; omega))) ?_⟩
    show mQs T tk q (C ++ []) [v] B o _
    rw [List.append_nil]
    exact mQs_push h hv
  | cons x S ih =>
    intro C m hG h hb hK
    have el : (x :: S ++ B).length = (S ++ B).length + 1 := rfl
    have hd : (x :: S ++ B).head? = some x := rfl
    have push : isMu x = false → vp_in (m.1 164 107) 1700 ∧ K' 1 (mm_uI (mm_uI m 240 (m.1 164 107).toNatClampNeg (nI v)) 164 107 (((mm_uI m 240 (m.1 164 107).toNatClampNeg (nI v)).1 164 107) + 1)) := fun hx => by
      rw [h.2.2.2.1, nI_clamp (by omega), uI_c (by decide), h.2.2.2.1, nI_1]
      refine ⟨vp_in_nI (by omega) (by decide), hK _ (offM_tr (offM_uI (by unfold wQs; omega)) (offM_uI (by unfold wQs; omega))) ?_⟩
      rw [List.takeWhile_cons_of_neg (by rw [hx]; decide), List.dropWhile_cons_of_neg (by rw [hx]; decide), List.append_nil]
      exact mQs_push h hv
    have drop : isMu x = true → mm_CV mX12_qDrops (d + 1) [.ref 164] m (fun m179 => jX12_qGoesOn_162 (d + 1) m179 K' (nI v)) := fun hx => by
      refine m_qDropsP hG h hb (fun m2 o2 s2 => ih (C ++ [x]) m2 (by rw [o2.2.2]; exact hG) s2 (by rw [List.length_append]; show C.length + 1 + _ < _; rw [el] at hb; omega) (fun m3 o3 s3 => hK m3 (offM_tr o2 o3) ?_))
      rw [List.takeWhile_cons_of_pos hx, List.dropWhile_cons_of_pos hx]
      rw [List.append_assoc] at s3; exact s3
    refine lX12_qGoesOn_162 hG (m_isOn (x := 3) hG h (by omega) (by omega) (fun z => ineg (by decide) (drop ?_)) (fun z3 => ipos rfl (m_isOn (x := 4) hG h (by omega) (by omega) (fun z => ineg (by decide) (drop ?_)) (fun z4 => ipos rfl (push ?_)))))
    · rw [hd] at z; unfold isMu; exact decide_eq_true (Or.inl (Option.some.inj z))
    · rw [hd] at z; unfold isMu; exact decide_eq_true (Or.inr (Option.some.inj z))
    · rw [hd] at z3 z4; unfold isMu
      refine decide_eq_false (fun w => ?_)
      rcases w with w | w
      · exact z3 (by rw [w])
      · exact z4 (by rw [w])
theorem m_247 {v : Nat} {K' : Int32 → mm_M → Prop} (hB : ∀ x, B.head? = some x → 10 ≤ x) (hv : 1 ≤ v ∧ v ≤ 61) : ∀ (S C : List Nat) (m : mm_M), mm_G m.2.2 → mQs T tk q C S B o m → C.length + (S ++ B).length < 1690 → (∀ m', offM wQs m m' → mQs T tk q (C ++ S.takeWhile isAM) (v :: S.dropWhile isAM) B o m' → K' 1 m') → jX12_qGoesOn_247 (d + 1) m K' (nI v) := by
  intro S
  induction S with
  | nil =>
    intro C m hG h hb hK
    have nB : ∀ x : Nat, x < 10 → ([] ++ B : List Nat).head? = some x → False := fun x hx z => by have := hB x z; omega
    refine lX12_qGoesOn_247 hG (m_isOn (x := 3) hG h (by omega) (by omega) (fun z => (nB 3 (by omega) z).elim) (fun _ => ipos rfl (m_isOn (x := 4) hG h (by omega) (by omega) (fun z => (nB 4 (by omega) z).elim) (fun _ => ipos rfl (m_isOn (x := 1) hG h (by omega) (by omega) (fun z => (nB 1 (by omega) z).elim) (fun _ => ipos rfl (m_isOn (x := 2) hG h (by omega) (by omega) (fun z => (nB 2 (by omega) z).elim) (fun _ => ipos rfl ?_))))))))
    rw [h.2.2.2.1, nI_clamp (by omega), uI_c (by decide), h.2.2.2.1, nI_1]
    refine ⟨vp_in_nI (by omega) (by decide), hK _ (offM_tr (offM_uI (by unfold wQs; omega)) (offM_uI (by unfold wQs; omega))) ?_⟩
    show mQs T tk q (C ++ []) [v] B o _
    rw [List.append_nil]
    exact mQs_push h hv
  | cons x S ih =>
    intro C m hG h hb hK
    have el : (x :: S ++ B).length = (S ++ B).length + 1 := rfl
    have hd : (x :: S ++ B).head? = some x := rfl
    have push : isAM x = false → vp_in (m.1 164 107) 1700 ∧ K' 1 (mm_uI (mm_uI m 240 (m.1 164 107).toNatClampNeg (nI v)) 164 107 (((mm_uI m 240 (m.1 164 107).toNatClampNeg (nI v)).1 164 107) + 1)) := fun hx => by
      rw [h.2.2.2.1, nI_clamp (by omega), uI_c (by decide), h.2.2.2.1, nI_1]
      refine ⟨vp_in_nI (by omega) (by decide), hK _ (offM_tr (offM_uI (by unfold wQs; omega)) (offM_uI (by unfold wQs; omega))) ?_⟩
      rw [List.takeWhile_cons_of_neg (by rw [hx]; decide), List.dropWhile_cons_of_neg (by rw [hx]; decide), List.append_nil]
      exact mQs_push h hv
    have drop : isAM x = true → mm_CV mX12_qDrops (d + 1) [.ref 164] m (fun m179 => jX12_qGoesOn_247 (d + 1) m179 K' (nI v)) := fun hx => by
      refine m_qDropsP hG h hb (fun m2 o2 s2 => ih (C ++ [x]) m2 (by rw [o2.2.2]; exact hG) s2 (by rw [List.length_append]; show C.length + 1 + _ < _; rw [el] at hb; omega) (fun m3 o3 s3 => hK m3 (offM_tr o2 o3) ?_))
      rw [List.takeWhile_cons_of_pos hx, List.dropWhile_cons_of_pos hx]
      rw [List.append_assoc] at s3; exact s3
    have am : ∀ w : Nat, 1 ≤ w ∧ w ≤ 4 → some x = some w → isAM x = true := fun w hw z => by
      have := Option.some.inj z
      unfold isAM; exact decide_eq_true (by omega)
    refine lX12_qGoesOn_247 hG (m_isOn (x := 3) hG h (by omega) (by omega) (fun z => ineg (by decide) (drop (am 3 (by omega) z))) (fun z3 => ipos rfl (m_isOn (x := 4) hG h (by omega) (by omega) (fun z => ineg (by decide) (drop (am 4 (by omega) z))) (fun z4 => ipos rfl (m_isOn (x := 1) hG h (by omega) (by omega) (fun z => ineg (by decide) (drop (am 1 (by omega) z))) (fun z1 => ipos rfl (m_isOn (x := 2) hG h (by omega) (by omega) (fun z => ineg (by decide) (drop (am 2 (by omega) z))) (fun z2 => ipos rfl (push ?_)))))))))
    rw [hd] at z1 z2 z3 z4
    unfold isAM
    refine decide_eq_false (fun w => ?_)
    have : x = 1 ∨ x = 2 ∨ x = 3 ∨ x = 4 := by omega
    rcases this with w | w | w | w
    · exact z1 (by rw [w])
    · exact z2 (by rw [w])
    · exact z3 (by rw [w])
    · exact z4 (by rw [w])
theorem m_53 : ∀ (S C : List Nat) (m : mm_M), mm_G m.2.2 → mQs T tk q C S B o m → C.length + (S ++ B).length < 1690 → (∀ m', offM wQs m m' → mQs T tk q (C ++ S) [] B o m' → K (mm_uI m' 164 109 y)) → jX12_qSums_53 (d + 10) m K y := by
  intro S
  induction S with
  | nil =>
    intro C m hG h hb hK
    have hbad : m.1 164 5 = 0 := by obtain ⟨p, h⟩ := h.1; exact h.2.1
    refine lX12_qSums_53 hG (ipos hbad ?_)
    rw [h.2.2.2.1, h.2.2.2.2.2.1]
    refine ipos (nI_le (Nat.le_refl _) (by have : C.length + B.length < 1690 := hb; omega)) (hK m offM_rf ?_)
    rw [List.append_nil]; exact h
  | cons x S ih =>
    intro C m hG h hb hK
    have hbad : m.1 164 5 = 0 := by obtain ⟨p, h⟩ := h.1; exact h.2.1
    have el : (x :: S ++ B).length = (S ++ B).length + 1 := rfl
    have hbl : B.length ≤ (S ++ B).length := by rw [List.length_append]; omega
    refine lX12_qSums_53 hG (ipos hbad ?_)
    rw [h.2.2.2.1, h.2.2.2.2.2.1, el]
    rw [el] at hb
    refine ineg (nI_ge (by omega) (by omega)) (m_qDropsP hG h (by rw [el]; omega) (fun m2 o2 s2 => ih (C ++ [x]) m2 (by rw [o2.2.2]; exact hG) s2 (by rw [List.length_append]; show C.length + 1 + _ < _; omega) (fun m3 o3 s3 => hK m3 (offM_tr o2 o3) ?_)))
    rw [List.append_assoc] at s3; exact s3
theorem brR_h (h : ∀ v ∈ S ++ B, 1 ≤ v ∧ v ≤ 61) {w : Nat} (hw : w < 100) : brR S = nI w ↔ (brk S).head? = some w := by
  have hb : ∀ v ∈ brk S, v ≤ 61 := fun v hv => (h v (List.mem_append.mpr (Or.inl ((List.dropWhile_sublist _).subset hv)))).2
  unfold brR
  cases hh : brk S with
  | nil => exact ⟨fun z => absurd z.symm (nI_nm1 (by omega)), fun z => by cases z⟩
  | cons v S' =>
    have := hb v (by rw [hh]; exact List.mem_cons_self)
    exact ⟨fun z => by show some v = some w; rw [(nI_eq (by omega) (by omega)).mp z], fun z => by have := Option.some.inj (show some v = some w from z); rw [this]⟩
theorem cnt_brk : ∀ (S B : List Nat), cnt (brk S ++ B) ≤ cnt (S ++ B)
  | [], B => Nat.le_refl _
  | v :: S, B => by
    rw [brk_c]
    split
    · exact Nat.le_refl _
    · have := cnt_brk S B
      show _ ≤ cnt (v :: (S ++ B))
      rw [cnt_c]; omega
theorem cnt_dw {P : Nat → Bool} : ∀ (S B : List Nat), cnt (S.dropWhile P ++ B) ≤ cnt (S ++ B)
  | [], B => Nat.le_refl _
  | v :: S, B => by
    rw [List.dropWhile_cons]
    split
    · have := cnt_dw (P := P) S B
      show _ ≤ cnt (v :: (S ++ B))
      rw [cnt_c]; omega
    · exact Nat.le_refl _
theorem len_tw {P : Nat → Bool} : ∀ (S : List Nat), (S.takeWhile P).length + (S.dropWhile P).length = S.length
  | [] => rfl
  | v :: S => by
    have := len_tw (P := P) S
    rw [List.takeWhile_cons, List.dropWhile_cons]
    cases P v with
    | true => show (S.takeWhile P).length + 1 + _ = S.length + 1; simp only [if_true]; omega
    | false => show 0 + (S.length + 1) = S.length + 1; omega
end
