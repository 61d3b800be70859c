/-! ===== the reference follows the machine of tests ===== -/
def KTg (d : Nat) (K : mm_M → Prop) : Int32 → mm_M → Prop := fun z m => if z = 0 then jX12_qTest_2 (d + 12) m K 0 else jX12_qTest_2 (d + 12) m K 1
def KTn (d : Nat) (K : mm_M → Prop) : mm_M → Prop := fun m => if (m.1 164 5) = 0 then mm_CI mX12_qGoesOnTest (d + 12) [.ref 164] m (KTg d K) else jX12_qTest_2 (d + 12) m K 0
def FTo (d : Nat) (K : mm_M → Prop) (m : mm_M) : Prop := jX12_qGoesOnTest_0 (d + 11) m (KTg d K) ∧ mm_CI mX12_qGoesOnTest (d + 12) [.ref 164] m (KTg d K)
def mTm (d : Nat) (K : mm_M → Prop) (ctl : Nat) (m : mm_M) : Prop :=
  if ctl = 4 then jX12_qTest_2 (d + 12) m K 1
  else if ctl = 5 then ∀ (dd : Nat) (K' : mm_M → Prop), (∀ m', mm_G m'.2.2 → m'.1 164 5 = 0 → FTo d K m' → K' m') → jX12_qDropsNots_0 (dd + 1) m K' ∧ mm_CV mX12_qDropsNots (dd + 2) [.ref 164] m K'
  else if ctl = 6 then FTo d K m else K m
def tRl (T : dT) (tk : Nat) (c : sC) (m : mm_M) : Prop := if c.1 = 9 then mXs c.2.2.2.2 c.2.1 m else mQs T tk c.2.1 c.2.2.1 c.2.2.2.1 [] c.2.2.2.2 m ∧ c.2.2.1.length + c.2.2.2.1.length ≤ c.2.1 ∧ cnt c.2.2.2.1 ≤ c.2.2.2.2 ∧ ∀ v ∈ c.2.2.2.1, 10 ≤ v
section
variable {T : dT} {tk q o d : Nat} {C S : List Nat} {M : mm_M} {K : mm_M → Prop}
theorem xTt {k p : Nat} {m : mm_M} {z : Int32} (hG : mm_G m.2.2) (h : mXs k p m) (hK : K m) : jX12_qTest_2 (d + 12) m K z := by
  have h110 : jX12_qTest_110 (d + 12) m K := lX12_qTest_110 hG (ineg (mXn0 h) hK)
  exact lX12_qTest_2 hG (ite_go (fun _ => h110) (fun _ => ineg (mXn0 h) h110))
theorem an (S : List Nat) : (S ++ []).length = S.length := by rw [List.append_nil]
theorem m_tA {c1 : sC} (hG : mm_G M.2.2) (h : mQs T tk q C S [] o M) (hb : C.length + S.length ≤ q) (hc : cnt S ≤ o) (h10 : ∀ v ∈ S, 10 ≤ v) (ht : tsA T tk q C S o c1) (next : ∀ m', offM wQs M m' → tRl T tk c1 m' → mTm d K c1.1 m') : jX12_qTest_2 (d + 12) M K 1 := by
  have hbad : M.1 164 5 = 0 := by obtain ⟨p, h⟩ := h.1; exact h.2.1
  have hn : T.2 ≤ 1600 := by obtain ⟨p, h⟩ := h.1; exact h.1.2.1
  have hq := mLx_q h.1
  have ho6 := h.2.2.2.2.2.2.2.2.2.1
  have hnx := nxt_b hq
  have G : ∀ m, offM wQs M m → mm_G m.2.2 := fun m o' => by rw [o'.2.2]; exact hG
  have bd : ∀ {m : mm_M} {q' : Nat} {C' S' : List Nat} {o' : Nat}, mQs T tk q' C' S' [] o' m → m.1 164 5 = 0 := fun {m q' C' S' o'} s => by obtain ⟨p, s⟩ := s.1; exact s.2.1
  have hlS := an S
  have bx : ∀ (k p : Nat) (z : Int32), c1 = xC k p → ∀ m', offM wQs M m' → mXs k p m' → jX12_qTest_2 (d + 12) m' K z := fun k p z e' m' o' x => by
    have nx := next m' o'
    rw [e'] at nx
    exact xTt (G m' o') x (nx x)
  have bn : ∀ (k p : Nat), c1 = xC k p → ∀ m', offM wQs M m' → mXs k p m' → mm_CV mX12_qDropsNots (d + 12) [.ref 164] m' (fun m84 => KTn d K m84) := fun k p e' m' o' x =>
    rX12_qDropsNots (G m' o') (ineg (mXn0 x) (show KTn d K m' from ineg (mXn0 x) (bx k p 0 e' m' o' x)))
  have g4 : ∀ (v : Nat), 10 ≤ v → c1 = (4, nxt T q, C, v :: S, o + 1) → q + 1 ≤ nxt T q → ∀ m', offM wQs M m' → mQs T tk (nxt T q) C (v :: S) [] (o + 1) m' → jX12_qTest_2 (d + 12) m' K 1 := fun v hv e' hq' m' o' s' => by
    have nx := next m' o'
    rw [e'] at nx
    exact nx ⟨s', by show C.length + (S.length + 1) ≤ nxt T q; omega, by show cnt (v :: S) ≤ o + 1; rw [cnt_c]; split <;> omega, fun x hx => by
      rcases List.mem_cons.mp hx with rfl | hx
      · exact hv
      · exact h10 x hx⟩
  have g5 : ∀ (q' : Nat) (C' : List Nat), c1 = (5, q', C', S, o) → C'.length + S.length ≤ q' → ∀ m', offM wQs M m' → mQs T tk q' C' S [] o m' → mm_CV mX12_qDropsNots (d + 12) [.ref 164] m' (fun m84 => KTn d K m84) := fun q' C' e' hq' m' o' s' => by
    have nx := next m' o'
    rw [e'] at nx
    exact (nx ⟨s', hq', hc, h10⟩ (d + 10) (KTn d K) (fun m2 hG2 hb2 f2 => ipos hb2 f2.2)).2
  refine lX12_qTest_2 hG (ineg (by decide) (ipos hbad (m_lookP hG h.1 (fun m1 o1 l1 => ?_))))
  have o1' : offM wLx M m1 := offM_mono o1 (fun c j z => by unfold wLx; omega)
  have s1 := mQs_lx h o1' ⟨_, l1⟩
  have o1q := wLx_Q o1'
  refine ite_go (fun e91 => ?_) (fun e91 => ?_)
  · have hs : isS T q 91 = true := (look_S (by decide) (by decide)).mp e91
    have em : c1 = if o = 6 then xC 4 q else (4, nxt T q, C, 25 :: S, o + 1) := by unfold tsA at ht; rw [if_pos hs] at ht; exact ht
    rw [l1.2.2.2.2.1]
    refine m_opensP (v := 25) (pl := q) (d := d + 11) (G m1 o1q) s1 (by omega) (by omega) (by omega) (fun ho m3 o3 s3 p3 p4 => ?_) (fun ho m3 o3 x3 => ?_)
    · have l3 := mLx_p s3.1 (p3.trans l1.2.2.2.2.1)
      exact g4 25 (by omega) (by rw [em, if_neg (by omega)]) (hnx.2.2 (isS_lt hs).1) _ (offM_tr (offM_tr o1q o3) (offM_uI (by unfold wQs wLx; omega))) (mQs_adv s3 l3 hs (by decide))
    · exact bx 4 q 1 (by rw [em, if_pos ho]) _ (offM_tr (offM_tr o1q (wLx_Q o3)) (offM_uI (by unfold wQs wLx; omega))) (mXs_off x3 (offM_uI (W := fun c j => c = 164 ∧ j = 2) ⟨rfl, rfl⟩) (fun c j z => by omega))
  have hs : ¬ isS T q 91 = true := fun z => e91 ((look_S (by decide) (by decide)).mpr z)
  refine m_hereQ (i := 6) (d := d + 11) (by omega) (G m1 o1q) s1 (fun w20 m2 o2 s2 l2 => ineg (by decide) ?_) (fun w20 m2 o2 s2 l2 => ipos rfl ?_)
  · have w20 : wdn T q = 20 := w20
    have hwn : wdn T q ≠ -1 := by rw [w20]; decide
    have em : c1 = if o = 6 then xC 4 q else (4, nxt T q, C, 12 :: S, o + 1) := by unfold tsA at ht; rw [if_neg hs, if_pos w20] at ht; exact ht
    have o2' := offM_tr o1q (wLx_Q o2)
    rw [l2.2.2.2.2.1]
    refine m_opensP (v := 12) (pl := q) (d := d + 11) (G m2 o2') s2 (by omega) (by omega) (by omega) (fun ho m3 o3 s3 p3 p4 => m_asksQ (i := 6) (d := d + 9) (by omega) (G m3 (offM_tr o2' o3)) s3 (fun _ m4 o4 s4 => g4 12 (by omega) (by rw [em, if_neg (by omega)]) (hnx.2.2 (wd_lt hwn)) m4 (offM_tr (offM_tr o2' o3) (wLx_Q o4)) s4) (fun z => absurd w20 z)) (fun ho m3 o3 x3 => m_asksX (G m3 (offM_tr o2' (wLx_Q o3))) x3 (sh_w 6 (by omega)).1 (bx 4 q 1 (by rw [em, if_pos ho]) m3 (offM_tr o2' (wLx_Q o3)) x3))
  have w20 : ¬ wdn T q = 20 := w20
  have o2' := offM_tr o1q (wLx_Q o2)
  refine rX12_qFact (d := d + 11) (G m2 o2') (m_takesQ (i := 9) (d := d + 9) (by omega) (G m2 o2') s2 (fun w21 m3 o3 s3 => ineg (by decide) ?_) (fun w21 m3 o3 s3 l3 => ipos rfl ?_))
  · have w21 : wdn T q = 21 := w21
    have hwn : wdn T q ≠ -1 := by rw [w21]; decide
    have l0 := hnx.2.2 (wd_lt hwn)
    have em : c1 = (5, nxt T q, C ++ [13], S, o) := by unfold tsA at ht; rw [if_neg hs, if_neg w20, if_pos w21] at ht; exact ht
    have o3' := offM_tr o2' (wLx_Q o3)
    exact m_qCodeP (c := 13) (G m3 o3') s3 (by omega) (fun m4 o4 s4 => g5 _ _ em (by rw [List.length_append]; show C.length + 1 + _ ≤ _; omega) m4 (offM_tr o3' o4) s4)
  have w21 : ¬ wdn T q = 21 := w21
  have o3' := offM_tr o2' (wLx_Q o3)
  have ht : tsS T tk q C S o c1 := by unfold tsA at ht; rw [if_neg hs, if_neg w20, if_neg w21] at ht; exact ht
  have hF : ∀ x, S.head? = some x → 10 ≤ x := fun x hx => h10 x (List.mem_of_mem_head? hx)
  rcases ht with ⟨k, p, hst, e1⟩ | ⟨q1, C1, hst, ht⟩
  · refine m_qSumsP (e := 0) (d := d) hF (G m3 o3') s3 (by omega) hc hst ⟨fun k' p' e2 m4 o4 x4 => ?_, fun q' C' o' e2 => by cases e2⟩ (Or.inl ⟨k, p, rfl⟩)
    obtain ⟨rfl, rfl⟩ : k = k' ∧ p = p' := by
      have := e2
      unfold xC at this
      simp only [Prod.mk.injEq] at this
      omega
    exact ineg (mXn0 x4.1) (bn k p e1 m4 (offM_tr o3' o4) x4.1)
  · refine m_qSumsP (e := 0) (d := d) hF (G m3 o3') s3 (by omega) hc hst ⟨fun k' p' e2 => (by cases e2), fun q' C' o' e2 m4 o4 s4 b4 c4 => ?_⟩ (Or.inr ⟨q1, C1, o, rfl⟩)
    obtain ⟨rfl, rfl, rfl⟩ : q1 = q' ∧ C1 = C' ∧ o = o' := by
      simp only [Prod.mk.injEq] at e2
      exact ⟨e2.2.1, e2.2.2.1, e2.2.2.2.2⟩
    have o4' := offM_tr o3' o4
    have hq1 := mLx_q s4.1
    have hnx1 := nxt_b hq1
    refine ipos (bd s4) (m_lookP (G m4 o4') s4.1 (fun m5 o5 l5 => ?_))
    have o5x : offM wLx m4 m5 := offM_mono o5 (fun c j z => by unfold wLx; omega)
    have s5 := mQs_lx s4 o5x ⟨_, l5⟩
    have o5' := offM_tr o4' (wLx_Q o5x)
    have hG5 := G m5 o5'
    have ls : ∀ c : Int32, knd c = 3 → c ≠ -1 → (((if q1 < T.2 then T.1 q1 else -1) = c) ↔ isS T q1 c = true) := fun c hc1 hc2 => look_S hc1 hc2
    have l60 := ls 60 (by decide) (by decide)
    have l62 := ls 62 (by decide) (by decide)
    have l61 := ls 61 (by decide) (by decide)
    generalize (if q1 < T.2 then T.1 q1 else -1) = z31 at l60 l62 l61 ⊢
    have body : ∀ (cc : Int32) (cm : Nat), knd cc = 3 → isS T q1 cc = true → cmpc T q1 = some cm → (cm = 7 ∨ cm = 8 ∨ cm = 9) → (∀ (m : mm_M) (K' : mm_M → Prop), mm_CV mX12_qCode (d + 11) [.ref 164, .int (nI cm)] m K' → (if z31 = 60 then (mm_CV mX12_qCode (d + 11) [.ref 164, .int 7] m K') else (if z31 = 62 then (mm_CV mX12_qCode (d + 11) [.ref 164, .int 8] m K') else (mm_CV mX12_qCode (d + 11) [.ref 164, .int 9] m K')))) → jX12_qFact_63 (d + 11) m5 (fun m80 => mm_CV mX12_qDropsNots (d + 12) [.ref 164] m80 (fun m84 => KTn d K m84)) z31 := fun cc cm hk hs1 hcm hcm7 hsel => by
      have l0 := hnx1.2.2 (isS_lt hs1).1
      have s6 := mQs_adv s5 l5 hs1 hk
      have o6 : offM wQs M (mm_uI m5 164 2 ((m5.1 164 2) + 1)) := offM_tr o5' (offM_uI (by unfold wQs wLx; omega))
      refine lX12_qFact_63 hG5 ?_
      generalize mm_uI m5 164 2 ((m5.1 164 2) + 1) = m6 at s6 o6 ⊢
      rcases ht with ⟨z, -⟩ | ⟨cm', z, ht⟩
      · rw [hcm] at z; cases z
      · rw [hcm] at z
        obtain rfl := Option.some.inj z
        rcases ht with ⟨k, p, hst2, e2'⟩ | ⟨q2, C2, hst2, e2'⟩
        · refine m_qSumsP (e := 1) (d := d) hF (G m6 o6) s6 (by omega) hc hst2 ⟨fun k' p' e3 m7 o7 x7 => ?_, fun q' C' o' e3 => by cases e3⟩ (Or.inl ⟨k, p, rfl⟩)
          obtain ⟨rfl, rfl⟩ : k = k' ∧ p = p' := by
            have := e3
            unfold xC at this
            simp only [Prod.mk.injEq] at this
            omega
          have o7' := offM_tr o6 o7
          obtain ⟨x7a, n7, n7b, x7b⟩ := x7
          refine hsel m7 _ (rX12_qCode (G m7 o7') ?_)
          rw [x7b, nI_clamp (by omega)]
          refine ⟨vp_in_nI (by omega) (by decide), ?_⟩
          have o8 : offM (fun c j => c = 239 ∨ (c = 164 ∧ j = 105)) m7 (mm_uI (mm_uI m7 239 n7 (nI cm)) 164 105 ((mm_uI m7 239 n7 (nI cm)).1 164 105 + 1)) := offM_tr (offM_uI (Or.inl rfl)) (offM_uI (Or.inr ⟨rfl, rfl⟩))
          have o8' := offM_tr o7' (offM_mono o8 (fun c j z => by unfold wQs; omega))
          have x8 := mXs_off x7a o8 (fun c j z => by omega)
          refine rX12_qDropsNots (G _ o8') (ineg (mXn0 x8) (show KTn d K _ from ineg (mXn0 x8) (xTt (G _ o8') x8 ?_)))
          have nx := next _ o8'
          rw [e2'] at nx
          exact nx x8
        · refine m_qSumsP (e := 1) (d := d) hF (G m6 o6) s6 (by omega) hc hst2 ⟨fun k' p' e3 => (by cases e3), fun q' C' o' e3 m7 o7 s7 b7 c7 => ?_⟩ (Or.inr ⟨q2, C2, o, rfl⟩)
          obtain ⟨rfl, rfl, rfl⟩ : q2 = q' ∧ C2 = C' ∧ o = o' := by
            simp only [Prod.mk.injEq] at e3
            exact ⟨e3.2.1, e3.2.2.1, e3.2.2.2.2⟩
          have o7' := offM_tr o6 o7
          have hq2 := mLx_q s7.1
          exact hsel m7 _ (m_qCodeP (c := cm) (G m7 o7') s7 (by omega) (fun m8 o8 s8 => g5 _ _ e2' (by rw [List.length_append]; show C2.length + 1 + _ ≤ _; omega) m8 (offM_tr o7' o8) s8))
    refine ite_go (fun z => body 60 7 (by decide) (l60.mp z) (by unfold cmpc; rw [if_pos (l60.mp z)]) (by omega) (fun m K' hh => ipos z hh)) (fun n60 => ite_go (fun z => body 62 8 (by decide) (l62.mp z) (by unfold cmpc; rw [if_neg (mt l60.mpr n60), if_pos (l62.mp z)]) (by omega) (fun m K' hh => ineg n60 (ipos z hh))) (fun n62 => ite_go (fun z => body 61 9 (by decide) (l61.mp z) (by unfold cmpc; rw [if_neg (mt l60.mpr n60), if_neg (mt l62.mpr n62), if_pos (l61.mp z)]) (by omega) (fun m K' hh => ineg n60 (ineg n62 hh))) (fun n61 => ?_)))
    have hno : cmpc T q1 = none := by unfold cmpc; rw [if_neg (mt l60.mpr n60), if_neg (mt l62.mpr n62), if_neg (mt l61.mpr n61)]
    rcases ht with ⟨-, e2'⟩ | ⟨cm', z, ht⟩
    · rw [l5.2.2.2.2.1]
      exact m_failP (k := 1) (p := q1) hG5 (bd s5) (by omega) (by omega) (fun m6 o6 x6 => bn 1 q1 e2' m6 (offM_tr o5' (wLx_Q o6)) x6)
    · rw [hno] at z; cases z
end
