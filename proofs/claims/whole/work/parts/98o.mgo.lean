/-! ===== the reference follows the machine of sums: how it goes on ===== -/
section
variable {T : dT} {tk q o d e : Nat} {C S B : List Nat} {M : mm_M} {K : mm_M → Prop} {y : Int32}
theorem KG_1 {m : mm_M} (hG : mm_G m.2.2) (hbad : m.1 164 5 = 0) (h : mSm d K y 0 m) : KG d K y 1 m := by
  show (if (1 : Int32) = 0 then _ else _)
  exact ineg (by decide) (lX12_qSums_15 hG (ineg (by decide) (ipos hbad (rX12_qPartTold hG h))))
theorem KG_0 {m : mm_M} (hG : mm_G m.2.2) (h : jX12_qSums_53 (d + 10) m K y) : KG d K y 0 m := by
  show (if (0 : Int32) = 0 then _ else _)
  exact ipos rfl (lX12_qSums_15 hG (ipos rfl h))
theorem m_stepG (hB : ∀ x, B.head? = some x → 10 ≤ x) (hG : mm_G M.2.2) (h : mQs T tk q C S B o M) (hb : C.length + (S ++ B).length + e ≤ q) (hc : cnt (S ++ B) ≤ o) (next : ∀ m', offM wQs M m' → mRl T tk e B (smG T q C S o) m' → mSm d K y (smG T q C S o).1 m') : FGo d K y M := by
  have hbad : M.1 164 5 = 0 := by obtain ⟨p, h⟩ := h.1; exact h.2.1
  have hn : T.2 ≤ 1600 := by obtain ⟨p, h⟩ := h.1; exact h.1.2.1
  have hq := mLx_q h.1
  have ho6 := h.2.2.2.2.2.2.2.2.2.1
  have h12 := h.2.2.2.2.2.2.2.2.2.2.2
  have hnx := nxt_b hq
  have G : ∀ m, offM wQs M m → mm_G m.2.2 := fun m o' => by rw [o'.2.2]; exact hG
  have hls : (S ++ B).length = S.length + B.length := List.length_append
  have bd : ∀ {m : mm_M} {q' : Nat} {C' S' : List Nat} {o' : Nat}, mQs T tk q' C' S' B o' m → m.1 164 5 = 0 := fun {m q' C' S' o'} s => by obtain ⟨p, s⟩ := s.1; exact s.2.1
  -- no bracket is closed
  have l122 : ¬ (isS T q 41 = true ∧ ((brk S).head? = some 20 ∨ (brk S).head? = some 23 ∨ (brk S).head? = some 24)) → ∀ m1, offM wQs M m1 → mQs T tk q C S B o m1 → jX12_qGoesOn_122 (d + 9) m1 (KG d K y) := fun n41 m1 o1 s1 => by
    have mul : (isS T q 42 = true ∨ isS T q 47 = true) → ∀ m2, offM wQs M m2 → mQs T tk (nxt T q) C S B o m2 → m2.1 164 2 = nI (q + 1) → jX12_qGoesOn_140 (d + 9) m2 (KG d K y) := fun hs m2 o2 s2 p2 => by
      have hq' : q < T.2 := by
        rcases hs with z | z
        · exact (isS_lt z).1
        · exact (isS_lt z).1
      have l0 := hnx.2.2 hq'
      have em : smG T q C S o = (0, nxt T q, C ++ S.takeWhile isMu, (if isS T q 42 then 3 else 4) :: S.dropWhile isMu, o) := by unfold smG; rw [if_neg n41, if_pos hs]
      have ht : m2.1 165 q = T.1 q := by obtain ⟨p, z⟩ := s2.1; exact z.1.2.2 q hq'
      have fin : ∀ v : Nat, (if isS T q 42 then 3 else 4) = v → jX12_qGoesOn_162 (d + 9) m2 (KG d K y) (nI v) := fun v hv => by
        have hv34 : v = 3 ∨ v = 4 := by rw [← hv]; split <;> omega
        rw [hv] at em
        refine m_162 hB (by omega) S C m2 (G m2 o2) s2 (by omega) (fun m3 o3 s3 => ?_)
        have o3' := offM_tr o2 o3
        have nx := next m3 o3'
        rw [em] at nx
        refine KG_1 (G m3 o3') (bd s3) (nx ⟨s3, ?_, ?_⟩)
        · show (C ++ S.takeWhile isMu).length + (v :: (S.dropWhile isMu) ++ B).length + e ≤ nxt T q
          have := len_tw (P := isMu) S
          rw [List.length_append]
          show C.length + _ + ((S.dropWhile isMu ++ B).length + 1) + e ≤ _
          rw [List.length_append]; omega
        · show cnt (v :: (S.dropWhile isMu ++ B)) ≤ o
          have := cnt_dw (P := isMu) S B
          rw [cnt_c, show isOp v = false from decide_eq_false (by omega)]
          show 0 + _ ≤ o
          omega
      refine lX12_qGoesOn_140 (G m2 o2) ?_
      rw [p2, show nI (q + 1) - 1 = nI q from pk_sub (a := q + 1) (b := 1) (by omega), nI_clamp (by omega), ht]
      refine ⟨vp_in_nI (by omega) (by decide), ite_go (fun z => fin 3 ?_) (fun z => fin 4 ?_)⟩
      · rw [if_pos ((isS_p (by decide)).mpr ⟨hq', z⟩)]
      · rw [if_neg (fun w => z (isS_lt w).2.1)]
    have add : isS T q 42 = false → isS T q 47 = false → (isS T q 43 = true ∨ isS T q 45 = true) → ∀ m2, offM wQs M m2 → mQs T tk (nxt T q) C S B o m2 → m2.1 164 2 = nI (q + 1) → jX12_qGoesOn_225 (d + 9) m2 (KG d K y) := fun n1 n2 hs m2 o2 s2 p2 => by
      have hq' : q < T.2 := by
        rcases hs with z | z
        · exact (isS_lt z).1
        · exact (isS_lt z).1
      have l0 := hnx.2.2 hq'
      have em : smG T q C S o = (0, nxt T q, C ++ S.takeWhile isAM, (if isS T q 43 then 1 else 2) :: S.dropWhile isAM, o) := by
        unfold smG; rw [if_neg n41, if_neg (fun z => by rw [n1, n2] at z; rcases z with z | z <;> exact absurd z (by decide)), if_pos hs]
      have ht : m2.1 165 q = T.1 q := by obtain ⟨p, z⟩ := s2.1; exact z.1.2.2 q hq'
      have fin : ∀ v : Nat, (if isS T q 43 then 1 else 2) = v → jX12_qGoesOn_247 (d + 9) m2 (KG d K y) (nI v) := fun v hv => by
        have hv34 : v = 1 ∨ v = 2 := by rw [← hv]; split <;> omega
        rw [hv] at em
        refine m_247 hB (by omega) S C m2 (G m2 o2) s2 (by omega) (fun m3 o3 s3 => ?_)
        have o3' := offM_tr o2 o3
        have nx := next m3 o3'
        rw [em] at nx
        refine KG_1 (G m3 o3') (bd s3) (nx ⟨s3, ?_, ?_⟩)
        · show (C ++ S.takeWhile isAM).length + (v :: (S.dropWhile isAM) ++ B).length + e ≤ nxt T q
          have := len_tw (P := isAM) S
          rw [List.length_append]
          show C.length + _ + ((S.dropWhile isAM ++ B).length + 1) + e ≤ _
          rw [List.length_append]; omega
        · show cnt (v :: (S.dropWhile isAM ++ B)) ≤ o
          have := cnt_dw (P := isAM) S B
          rw [cnt_c, show isOp v = false from decide_eq_false (by omega)]
          show 0 + _ ≤ o
          omega
      refine lX12_qGoesOn_225 (G m2 o2) ?_
      rw [p2, show nI (q + 1) - 1 = nI q from pk_sub (a := q + 1) (b := 1) (by omega), nI_clamp (by omega), ht]
      refine ⟨vp_in_nI (by omega) (by decide), ite_go (fun z => fin 1 ?_) (fun z => fin 2 ?_)⟩
      · rw [if_pos ((isS_p (by decide)).mpr ⟨hq', z⟩)]
      · rw [if_neg (fun w => z (isS_lt w).2.1)]
    refine lX12_qGoesOn_122 (G m1 o1) (m_takesS (d := d + 8) (G m1 o1) s1.1 (by decide) (by decide) (fun z m2 o2 l2 => ineg (by decide) (mul (Or.inl z) m2 (offM_tr o1 (wLx_Q o2)) (mQs_lx s1 o2 ⟨_, l2⟩) l2.2.2.2.2.1)) (fun n42 m2 o2 l2 => ipos rfl ?_))
    have o2' := offM_tr o1 (wLx_Q o2)
    have s2 := mQs_lx s1 o2 ⟨_, l2⟩
    refine m_takesS (d := d + 8) (G m2 o2') s2.1 (by decide) (by decide) (fun z m3 o3 l3 => ineg (by decide) (mul (Or.inr z) m3 (offM_tr o2' (wLx_Q o3)) (mQs_lx s2 o3 ⟨_, l3⟩) l3.2.2.2.2.1)) (fun n47 m3 o3 l3 => ipos rfl ?_)
    have o3' := offM_tr o2' (wLx_Q o3)
    have s3 := mQs_lx s2 o3 ⟨_, l3⟩
    refine m_takesS (d := d + 8) (G m3 o3') s3.1 (by decide) (by decide) (fun z m4 o4 l4 => ineg (by decide) (add n42 n47 (Or.inl z) m4 (offM_tr o3' (wLx_Q o4)) (mQs_lx s3 o4 ⟨_, l4⟩) l4.2.2.2.2.1)) (fun n43 m4 o4 l4 => ipos rfl ?_)
    have o4' := offM_tr o3' (wLx_Q o4)
    have s4 := mQs_lx s3 o4 ⟨_, l4⟩
    refine m_takesS (d := d + 8) (G m4 o4') s4.1 (by decide) (by decide) (fun z m5 o5 l5 => ineg (by decide) (add n42 n47 (Or.inr z) m5 (offM_tr o4' (wLx_Q o5)) (mQs_lx s4 o5 ⟨_, l5⟩) l5.2.2.2.2.1)) (fun n45 m5 o5 l5 => ipos rfl ?_)
    have o5' := offM_tr o4' (wLx_Q o5)
    have s5 := mQs_lx s4 o5 ⟨_, l5⟩
    have hG5 := G m5 o5'
    have em : smG T q C S o = match brk S with
        | [] => (3, q, C ++ S, [], o)
        | v :: S' => if v = 21 ∨ v = 22 then (if isS T q 44 then (0, nxt T q, C ++ ops S, (v + 2) :: S', o) else xC 1 q) else xC 1 q := by
      unfold smG
      rw [if_neg n41, if_neg (fun z => by rw [n42, n47] at z; rcases z with z | z <;> exact absurd z (by decide)), if_neg (fun z => by rw [n43, n45] at z; rcases z with z | z <;> exact absurd z (by decide))]
      cases brk S <;> rfl
    have comma : ∀ v S', brk S = v :: S' → v = 21 ∨ v = 22 → jX12_qGoesOn_326 (d + 9) m5 (KG d K y) := fun v S' hbk hv => by
      rw [hbk] at em
      have em : smG T q C S o = if v = 21 ∨ v = 22 then (if isS T q 44 then (0, nxt T q, C ++ ops S, (v + 2) :: S', o) else xC 1 q) else xC 1 q := em
      rw [if_pos hv] at em
      refine lX12_qGoesOn_326 hG5 (m_asksS (d := d + 7) hG5 s5.1 (by decide) (by decide) (fun z m6 o6 l6 => ?_) (fun z m6 o6 x6 => ?_))
      · rw [if_pos z] at em
        have l0 := hnx.2.2 (isS_lt z).1
        have o6' := offM_tr o5' (wLx_Q o6)
        have s6 := mQs_lx s5 o6 l6
        refine ipos (bd s6) (m_dropsBr (d := d + 7) (G m6 o6') s6 (by omega) (fun m7 o7 s7 => ?_))
        have o7' := offM_tr o6' o7
        rw [hbk] at s7
        have el : (v :: S' ++ B).length = (S' ++ B).length + 1 := rfl
        have hlb : (ops S).length + (brk S).length = S.length := len_tw S
        rw [hbk] at hlb
        have hlb : (ops S).length + (S'.length + 1) = S.length := hlb
        have hls' : (S' ++ B).length = S'.length + B.length := List.length_append
        have h5 : m7.1 240 (S' ++ B).length = nI v ∧ stR (S' ++ B) (m7.1 240) := s7.2.2.2.2.1
        rw [s7.2.2.2.1, el, show nI ((S' ++ B).length + 1) - 1 = nI (S' ++ B).length from pk_sub (a := (S' ++ B).length + 1) (b := 1) (by omega), nI_clamp (by omega), h5.1]
        refine ⟨vp_in_nI (by omega) (by decide), vp_in_nI (by omega) (by decide), ?_⟩
        show KG d K y 1 (mm_uI m7 240 (S' ++ B).length (nI v + nI 2))
        rw [nI_add]
        have o8 : offM (fun c j => c = 240 ∧ j = (S' ++ B).length) m7 (mm_uI m7 240 (S' ++ B).length (nI (v + 2))) := offM_uI ⟨rfl, rfl⟩
        have s8 : mQs T tk (nxt T q) (C ++ ops S) ((v + 2) :: S') B o (mm_uI m7 240 (S' ++ B).length (nI (v + 2))) := by
          obtain ⟨h1, h2, h3, h4, h5', h6, h7, h8, h9, h10, h11, h12'⟩ := s7
          refine ⟨mLx_off h1 o8 (fun c j z => by omega), by rw [o8.1 _ _ (by omega)]; exact h2, fun j c hc => by rw [o8.1 _ _ (by omega)]; exact h3 j c hc, by rw [o8.1 _ _ (by omega)]; exact h4, ⟨uI_at _ _ _ _, stR_of (S' ++ B) _ _ h5.2 (fun (j : Nat) (hj : j < (S' ++ B).length) => o8.1 _ _ (by omega))⟩, by rw [o8.1 _ _ (by omega)]; exact h6, by rw [o8.1 _ _ (by omega)]; exact h7, by rw [o8.1 _ _ (by omega)]; exact h8, h9, h10, mWd_off h11 (offA_M o8) (fun c j z => by omega), fun x hx => ?_⟩
          rcases List.mem_cons.mp hx with rfl | hx
          · omega
          · exact h12' x (List.mem_cons_of_mem _ hx)
        have o8' := offM_tr o7' (offM_mono o8 (fun c j z => by unfold wQs; omega))
        have nx := next _ o8'
        rw [em] at nx
        refine KG_1 (G _ o8') (bd s8) (nx ⟨s8, ?_, ?_⟩)
        · show (C ++ ops S).length + ((v + 2) :: S' ++ B).length + e ≤ nxt T q
          rw [List.length_append]
          show C.length + _ + ((S' ++ B).length + 1) + e ≤ _
          omega
        · show cnt ((v + 2) :: (S' ++ B)) ≤ o
          have h1 := cnt_brk S B
          rw [hbk] at h1
          have h1 : cnt (v :: (S' ++ B)) ≤ cnt (S ++ B) := h1
          rw [cnt_c, show isOp v = true from decide_eq_true (by omega), if_pos rfl] at h1
          rw [cnt_c, show isOp (v + 2) = true from decide_eq_true (by omega), if_pos rfl]
          omega
      · rw [if_neg (by rw [z]; decide)] at em
        have o6' := offM_tr o5' (wLx_Q o6)
        have nx := next m6 o6'
        rw [em] at nx
        refine ineg (mXn0 x6) ?_
        show (if (0 : Int32) = 0 then _ else _)
        exact ipos rfl (x_15 (G m6 o6') x6 (nx (xOk_of s5 (by omega) o6 x6)))
    have e21 := brR_h (B := B) h12 (w := 21) (by omega)
    have e22 := brR_h (B := B) h12 (w := 22) (by omega)
    refine m_brk (d := d + 8) hG5 s5 (by omega) (ite_go (fun z => ?_) (fun z1 => m_brk (d := d + 8) hG5 s5 (by omega) (ite_go (fun z => ?_) (fun z2 => m_brk (d := d + 8) hG5 s5 (by omega) ?_))))
    · have := e21.mp z
      cases hbk : brk S with
      | nil => rw [hbk] at this; cases this
      | cons v S' =>
        rw [hbk] at this
        exact comma v S' hbk (Or.inl (Option.some.inj this))
    · have := e22.mp z
      cases hbk : brk S with
      | nil => rw [hbk] at this; cases this
      | cons v S' =>
        rw [hbk] at this
        exact comma v S' hbk (Or.inr (Option.some.inj this))
    · cases hbk : brk S with
      | nil =>
        have er : brR S = -1 := by unfold brR; rw [hbk]
        rw [hbk] at em
        have em : smG T q C S o = (3, q, C ++ S, [], o) := em
        rw [er]
        refine ipos rfl (KG_0 hG5 (m_53 S C m5 hG5 s5 (by omega) (fun m6 o6 s6 => ?_)))
        have o6' := offM_tr o5' o6
        have nx := next m6 o6'
        rw [em] at nx
        refine nx ⟨s6, ?_, ?_⟩
        · show (C ++ S).length + ([] ++ B : List Nat).length + e ≤ q
          rw [List.length_append]
          show _ + B.length + e ≤ q
          omega
        · show cnt ([] ++ B : List Nat) ≤ o
          have := cnt_brk S B
          rw [hbk] at this
          omega
      | cons v S' =>
        have hv : ¬ (v = 21 ∨ v = 22) := by
          rintro (rfl | rfl)
          · exact z1 (e21.mpr (by rw [hbk]; rfl))
          · exact z2 (e22.mpr (by rw [hbk]; rfl))
        have er : brR S = nI v := by unfold brR; rw [hbk]
        have hv61 := (h12 v (List.mem_append.mpr (Or.inl ((List.dropWhile_sublist _).subset (show v ∈ brk S by rw [hbk]; exact List.mem_cons_self))))).2
        rw [hbk] at em
        have em : smG T q C S o = if v = 21 ∨ v = 22 then (if isS T q 44 then (0, nxt T q, C ++ ops S, (v + 2) :: S', o) else xC 1 q) else xC 1 q := em
        rw [if_neg hv] at em
        rw [er, l5.2.2.2.2.1]
        refine ineg (nI_nm1 (b := v) (by omega)) (ipos (bd s5) (m_failP (k := 1) (p := q) hG5 (bd s5) (by omega) (by omega) (fun m6 o6 x6 => ?_)))
        have o6' := offM_tr o5' (wLx_Q o6)
        have nx := next m6 o6'
        rw [em] at nx
        show (if (0 : Int32) = 0 then _ else _)
        exact ipos rfl (x_15 (G m6 o6') x6 (nx (xOk_of s5 (by omega) o6 x6)))
  -- a bracket is closed
  have l43 : isS T q 41 = true → ((brk S).head? = some 20 ∨ (brk S).head? = some 23 ∨ (brk S).head? = some 24) → ∀ m1, offM wQs M m1 → mQs T tk q C S B o m1 → mLp T q q m1 → jX12_qGoesOn_43 (d + 9) m1 (KG d K y) := fun h41 hh m1 o1 s1 l1 => by
    have l0 := hnx.2.2 (isS_lt h41).1
    have em : smG T q C S o = (1, nxt T q, C ++ ops S ++ (if (brk S).head? = some 20 then [] else if (brk S).head? = some 23 then [5] else [6]), (brk S).tail, o - 1) := by unfold smG; rw [if_pos ⟨h41, hh⟩]
    cases hbk : brk S with
    | nil =>
      rw [hbk] at hh
      rcases hh with z | z | z <;> cases z
    | cons v S' =>
      rw [hbk] at em hh
      have hv : v = 20 ∨ v = 23 ∨ v = 24 := by
        rcases hh with z | z | z
        · exact Or.inl (Option.some.inj z)
        · exact Or.inr (Or.inl (Option.some.inj z))
        · exact Or.inr (Or.inr (Option.some.inj z))
      have em : smG T q C S o = (1, nxt T q, C ++ ops S ++ (if v = 20 then [] else if v = 23 then [5] else [6]), S', o - 1) := by
        rw [em]
        rcases hv with rfl | rfl | rfl <;> rfl
      have hlb : (ops S).length + (brk S).length = S.length := len_tw S
      rw [hbk] at hlb
      have hlb : (ops S).length + (S'.length + 1) = S.length := hlb
      have hls' : (S' ++ B).length = S'.length + B.length := List.length_append
      have el : (v :: S' ++ B).length = (S' ++ B).length + 1 := rfl
      have hcn : cnt (v :: (S' ++ B)) ≤ cnt (S ++ B) := by have := cnt_brk S B; rw [hbk] at this; exact this
      rw [cnt_c, show isOp v = true from decide_eq_true (by omega), if_pos rfl] at hcn
      refine lX12_qGoesOn_43 (G m1 o1) (m_dropsBr (d := d + 7) (G _ (offM_tr o1 (offM_uI (by unfold wQs wLx; omega)))) (mQs_adv s1 l1 h41 (by decide)) (by omega) (fun m2 o2 s2 => ?_))
      have o2' : offM wQs M m2 := offM_tr (offM_tr o1 (offM_uI (by unfold wQs wLx; omega))) o2
      rw [hbk] at s2
      have h5 : m2.1 240 (S' ++ B).length = nI v ∧ stR (S' ++ B) (m2.1 240) := s2.2.2.2.2.1
      rw [s2.2.2.2.1, el, show nI ((S' ++ B).length + 1) - 1 = nI (S' ++ B).length from pk_sub (a := (S' ++ B).length + 1) (b := 1) (by omega), uI_j (j := 107) (by decide), uI_at, uI_j (j := 108) (by decide), s2.2.2.2.2.2.2.1, show nI o - 1 = nI (o - 1) from pk_sub (a := o) (b := 1) (by omega), nI_clamp (by omega), uI_c (by decide), uI_c (by decide), h5.1]
      have s3 := mQs_o (mQs_pop s2) (show o - 1 ≤ 6 by omega)
      have o3 : offM wQs M (mm_uI (mm_uI m2 164 107 (nI (S' ++ B).length)) 164 108 (nI (o - 1))) := offM_tr o2' (offM_tr (offM_uI (by unfold wQs; omega)) (offM_uI (by unfold wQs; omega)))
      generalize mm_uI (mm_uI m2 164 107 (nI (S' ++ B).length)) 164 108 (nI (o - 1)) = m3 at s3 o3 ⊢
      have fin : ∀ (xs : List Nat) (m4 : mm_M), xs.length ≤ 1 → (if v = 20 then [] else if v = 23 then [5] else [6]) = xs → offM wQs M m4 → mQs T tk (nxt T q) (C ++ ops S ++ xs) S' B (o - 1) m4 → mm_CV mX12_qEndsPart (d + 9) [.ref 164] m4 (fun m116 => jX12_qGoesOn_0 (d + 9) m116 (KG d K y)) := fun xs m4 hxs hx o4 s4 => by
        rw [hx] at em
        have nx := next m4 o4
        rw [em] at nx
        have nx := nx ⟨s4, by show (C ++ ops S ++ xs).length + (S' ++ B).length + e ≤ nxt T q; rw [List.length_append, List.length_append]; omega, by show cnt (S' ++ B) ≤ o - 1; omega⟩
        exact (nx (fun m116 => jX12_qGoesOn_0 (d + 9) m116 (KG d K y)) (fun m' _ _ f => f.1)).2
      have hcl : (C ++ ops S).length = C.length + (ops S).length := List.length_append
      refine ⟨vp_in_nI (by omega) (by decide), ?_⟩
      rcases hv with rfl | rfl | rfl
      · refine ipos rfl (fin [] m3 (by decide) rfl o3 ?_)
        rw [List.append_nil]; exact s3
      · exact ineg (by decide) ⟨vp_in_nI (by omega) (by decide), ipos rfl (m_qCodeP (c := 5) (G m3 o3) s3 (by omega) (fun m4 o4 s4 => fin [5] m4 (by decide) rfl (offM_tr o3 o4) s4))⟩
      · exact ineg (by decide) ⟨vp_in_nI (by omega) (by decide), ineg (by decide) (m_qCodeP (c := 6) (G m3 o3) s3 (by omega) (fun m4 o4 s4 => fin [6] m4 (by decide) rfl (offM_tr o3 o4) s4))⟩
  have e20 := brR_h (B := B) h12 (w := 20) (by omega)
  have e23 := brR_h (B := B) h12 (w := 23) (by omega)
  have e24 := brR_h (B := B) h12 (w := 24) (by omega)
  have key : (if (M.1 164 5) = 0 then (mm_CI mX12_look (d + 9) [.ref 164] M (fun z8 m8 => if z8 = 41 then (mm_CI mX12_qBracket (d + 9) [.ref 164] m8 (fun z17 m17 => if z17 = 20 then (jX12_qGoesOn_43 (d + 9) m17 (KG d K y)) else (mm_CI mX12_qBracket (d + 9) [.ref 164] m17 (fun z26 m26 => if z26 = 23 then (jX12_qGoesOn_43 (d + 9) m26 (KG d K y)) else (mm_CI mX12_qBracket (d + 9) [.ref 164] m26 (fun z35 m35 => if z35 = 24 then (jX12_qGoesOn_43 (d + 9) m35 (KG d K y)) else (jX12_qGoesOn_122 (d + 9) m35 (KG d K y)))))))) else (jX12_qGoesOn_122 (d + 9) m8 (KG d K y)))) else (jX12_qGoesOn_122 (d + 9) M (KG d K y))) := by
    refine ipos hbad (m_lookP hG h.1 (fun m1 o1 l1 => ?_))
    have o1' : offM wLx M m1 := offM_mono o1 (fun c j z => by unfold wLx; omega)
    have s1 := mQs_lx h o1' ⟨_, l1⟩
    have o1q := wLx_Q o1'
    refine ite_go (fun z => ?_) (fun z => l122 (fun w => z ((look_S (by decide) (by decide)).mpr w.1)) m1 o1q s1)
    have h41 := (look_S (T := T) (q := q) (c := 41) (by decide) (by decide)).mp z
    refine m_brk (d := d + 8) (G m1 o1q) s1 (by omega) (ite_go (fun z => l43 h41 (Or.inl (e20.mp z)) m1 o1q s1 l1) (fun n20 => m_brk (d := d + 8) (G m1 o1q) s1 (by omega) (ite_go (fun z => l43 h41 (Or.inr (Or.inl (e23.mp z))) m1 o1q s1 l1) (fun n23 => m_brk (d := d + 8) (G m1 o1q) s1 (by omega) (ite_go (fun z => l43 h41 (Or.inr (Or.inr (e24.mp z))) m1 o1q s1 l1) (fun n24 => l122 (fun w => ?_) m1 o1q s1))))))
    rcases w.2 with w | w | w
    · exact n20 (e20.mpr w)
    · exact n23 (e23.mpr w)
    · exact n24 (e24.mpr w)
  exact ⟨lX12_qGoesOn_0 hG key, rX12_qGoesOn hG key⟩
end
