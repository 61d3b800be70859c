/-! ===== the reference follows the machine of sums: a part is wanted ===== -/
def KG (d : Nat) (K : mm_M → Prop) (y : Int32) : Int32 → mm_M → Prop := fun z m => if z = 0 then jX12_qSums_15 (d + 10) m K y 0 else jX12_qSums_15 (d + 10) m K y 1
def KA (d : Nat) (K : mm_M → Prop) (y : Int32) : mm_M → Prop := fun m => if (m.1 164 5) = 0 then mm_CI mX12_qGoesOn (d + 10) [.ref 164] m (KG d K y) else jX12_qSums_15 (d + 10) m K y 0
def FGo (d : Nat) (K : mm_M → Prop) (y : Int32) (m : mm_M) : Prop := jX12_qGoesOn_0 (d + 9) m (KG d K y) ∧ mm_CI mX12_qGoesOn (d + 10) [.ref 164] m (KG d K y)
def mSm (d : Nat) (K : mm_M → Prop) (y : Int32) (ctl : Nat) (m : mm_M) : Prop :=
  if ctl = 0 then jX12_qPartTold_2 (d + 9) m (KA d K y) 1
  else if ctl = 1 then ∀ K' : mm_M → Prop, (∀ m', mm_G m'.2.2 → m'.1 164 5 = 0 → FGo d K y m' → K' m') → jX12_qEndsPart_0 (d + 8) m K' ∧ mm_CV mX12_qEndsPart (d + 9) [.ref 164] m K'
  else if ctl = 2 then FGo d K y m else K (mm_uI m 164 109 y)
def isOp (v : Nat) : Bool := decide (v = 12 ∨ 20 ≤ v)
def cnt (F : List Nat) : Nat := (F.filter isOp).length
theorem cnt_c (v : Nat) (F : List Nat) : cnt (v :: F) = (if isOp v then 1 else 0) + cnt F := by
  unfold cnt
  cases h : isOp v with
  | true => rw [List.filter_cons_of_pos h]; show _ + 1 = 1 + _; omega
  | false => rw [List.filter_cons_of_neg (by rw [h]; decide)]; show _ = 0 + _; omega
/-- a fault; codes have room -/
def xOk (k p : Nat) (m : mm_M) : Prop := mXs k p m ∧ ∃ n, n ≤ 1695 ∧ m.1 164 105 = nI n
theorem xOk_of {T : dT} {tk q o k p : Nat} {C S B : List Nat} {M m : mm_M} (s : mQs T tk q C S B o M) (hC : C.length ≤ 1690) (o' : offM wLx M m) (x : mXs k p m) : xOk k p m := ⟨x, C.length, by omega, by rw [o'.1 _ _ (by unfold wLx; omega)]; exact s.2.1⟩
def mRl (T : dT) (tk e : Nat) (B : List Nat) (c : sC) (m : mm_M) : Prop := if c.1 = 9 then xOk c.2.2.2.2 c.2.1 m else mQs T tk c.2.1 c.2.2.1 c.2.2.2.1 B c.2.2.2.2 m ∧ c.2.2.1.length + (c.2.2.2.1 ++ B).length + e ≤ c.2.1 ∧ cnt (c.2.2.2.1 ++ B) ≤ c.2.2.2.2
section
variable {T : dT} {tk q o d e : Nat} {C S B : List Nat} {M : mm_M} {K : mm_M → Prop} {y : Int32}
theorem x_15 {k p : Nat} {m : mm_M} {z : Int32} (hG : mm_G m.2.2) (h : mXs k p m) (hK : K (mm_uI m 164 109 y)) : jX12_qSums_15 (d + 10) m K y z := by
  have h53 : jX12_qSums_53 (d + 10) m K y := lX12_qSums_53 hG (ineg (mXn0 h) hK)
  exact lX12_qSums_15 hG (ite_go (fun _ => h53) (fun _ => ineg (mXn0 h) h53))
theorem x_P {k p : Nat} {m : mm_M} {z : Int32} (hG : mm_G m.2.2) (h : mXs k p m) (hK : K (mm_uI m 164 109 y)) : jX12_qPartTold_2 (d + 9) m (KA d K y) z := by
  have h186 : jX12_qPartTold_186 (d + 9) m (KA d K y) := lX12_qPartTold_186 hG (ineg (mXn0 h) (show KA d K y m from ineg (mXn0 h) (x_15 hG h hK)))
  exact lX12_qPartTold_2 hG (ite_go (fun _ => h186) (fun _ => ineg (mXn0 h) h186))
theorem mLx_p {m : mm_M} (h : mLx T q m) (h2 : m.1 164 2 = nI q) : mLp T q q m := by
  have hq := mLx_q h
  obtain ⟨p, h⟩ := h
  have hn := h.1.2.1
  have := h.2.2.2.1
  have e : nI p = nI q := h.2.2.2.2.1.symm.trans h2
  obtain rfl : p = q := (nI_eq (by omega) (by omega)).mp e
  exact h
theorem m_adv {c : Int32} {m : mm_M} (hl : mLp T q q m) (hs : isS T q c = true) (hc : knd c = 3) : mLp T (q + 1) (nxt T q) (mm_uI m 164 2 ((m.1 164 2) + 1)) := by
  obtain ⟨a1, a2, a3, a4, a5, a6, a7⟩ := id hl
  have hn := a1.2.1
  obtain ⟨y1, y2, y3⟩ := isS_lt hs
  have et : ten T q = q + 1 := by unfold ten; rw [y3]; rfl
  have o2 : offM (fun c j => c = 164 ∧ j = 2) m (mm_uI m 164 2 ((m.1 164 2) + 1)) := offM_uI ⟨rfl, rfl⟩
  refine ⟨mTx_off a1 o2 (fun c j z => by omega), by rw [o2.1 _ _ (by omega)]; exact a2, by rw [o2.1 _ _ (by omega)]; exact a3, by omega, by rw [uI_at, a5, nI_1], by unfold nxt; rw [et], ?_⟩
  have hg : glu T (q + 1) = false := by
    have := knd_3.mp hc
    unfold glu
    rw [show q + 1 - 1 = q by omega, y2, this.1, this.2, Bool.or_self, Bool.and_false]
  unfold enI at a7 ⊢
  rw [o2.1 _ _ (by omega), hg]
  rcases a7 with ⟨z, -⟩ | ⟨e, z1, z2, -⟩
  · exact Or.inl ⟨z, rfl⟩
  · exact Or.inr ⟨e, by omega, z2, ⟨fun y => by omega, fun y => by cases y⟩⟩
theorem mQs_adv {c : Int32} {m : mm_M} (h : mQs T tk q C S B o m) (hl : mLp T q q m) (hs : isS T q c = true) (hc : knd c = 3) : mQs T tk (nxt T q) C S B o (mm_uI m 164 2 ((m.1 164 2) + 1)) := mQs_lx h (offM_uI (by unfold wLx; omega)) ⟨_, m_adv hl hs hc⟩
theorem look_S {c : Int32} (hc : knd c = 3) (hc1 : c ≠ -1) : ((if q < T.2 then T.1 q else -1) = c) ↔ isS T q c = true := by
  rw [isS_p hc]
  by_cases z : q < T.2
  · rw [if_pos z]; exact ⟨fun y => ⟨z, y⟩, fun y => y.2⟩
  · rw [if_neg z]; exact ⟨fun y => absurd y.symm hc1, fun y => absurd y.1 z⟩
theorem prt_wq : ∀ tk w p, prt tk w = some p → w = nI (wq.getD (12 + p) 0) := fun tk w p h => by
  unfold prt at h
  repeat' split at h
  all_goals first | (cases h; assumption) | cases h
theorem m_asksWord {p : Nat} {K' : mm_M → Prop} (hp : p < 10) (hG : mm_G M.2.2) (h : mQs T tk q C S B o M) (hw : wdn T q = nI (wq.getD (12 + p) 0)) (hK : ∀ m, offM wLx M m → mQs T tk (nxt T q) C S B o m → K' m) : mm_CV mX12_qAsksWord (d + 4) [.ref 164, .int (nI p)] M K' := by
  refine rX12_qAsksWord hG ?_
  match p, hp with
  | 0, _ => exact ipos (by decide) (m_asksQ (i := 12) (by omega) hG h (fun _ m o' s => hK m o' s) (fun z => absurd hw z))
  | 1, _ => exact ineg (by decide) (ipos (by decide) (m_asksQ (i := 13) (by omega) hG h (fun _ m o' s => hK m o' s) (fun z => absurd hw z)))
  | 2, _ => exact ineg (by decide) (ineg (by decide) (ipos (by decide) (m_asksQ (i := 14) (by omega) hG h (fun _ m o' s => hK m o' s) (fun z => absurd hw z))))
  | 3, _ => exact ineg (by decide) (ineg (by decide) (ineg (by decide) (ipos (by decide) (m_asksQ (i := 15) (by omega) hG h (fun _ m o' s => hK m o' s) (fun z => absurd hw z)))))
  | 4, _ => exact ineg (by decide) (ineg (by decide) (ineg (by decide) (ineg (by decide) (ipos (by decide) (m_asksQ (i := 16) (by omega) hG h (fun _ m o' s => hK m o' s) (fun z => absurd hw z))))))
  | 5, _ => exact ineg (by decide) (ineg (by decide) (ineg (by decide) (ineg (by decide) (ineg (by decide) (ipos (by decide) (m_asksQ (i := 17) (by omega) hG h (fun _ m o' s => hK m o' s) (fun z => absurd hw z)))))))
  | 6, _ => exact ineg (by decide) (ineg (by decide) (ineg (by decide) (ineg (by decide) (ineg (by decide) (ineg (by decide) (ipos (by decide) (m_asksQ (i := 18) (by omega) hG h (fun _ m o' s => hK m o' s) (fun z => absurd hw z))))))))
  | 7, _ => exact ineg (by decide) (ineg (by decide) (ineg (by decide) (ineg (by decide) (ineg (by decide) (ineg (by decide) (ineg (by decide) (ipos (by decide) (m_asksQ (i := 19) (by omega) hG h (fun _ m o' s => hK m o' s) (fun z => absurd hw z)))))))))
  | 8, _ => exact ineg (by decide) (ineg (by decide) (ineg (by decide) (ineg (by decide) (ineg (by decide) (ineg (by decide) (ineg (by decide) (ineg (by decide) (ipos (by decide) (m_asksQ (i := 20) (by omega) hG h (fun _ m o' s => hK m o' s) (fun z => absurd hw z))))))))))
  | 9, _ => exact ineg (by decide) (ineg (by decide) (ineg (by decide) (ineg (by decide) (ineg (by decide) (ineg (by decide) (ineg (by decide) (ineg (by decide) (ineg (by decide) (m_asksQ (i := 21) (by omega) hG h (fun _ m o' s => hK m o' s) (fun z => absurd hw z))))))))))
theorem m_asksWordX {k p : Nat} {x : Int32} {K' : mm_M → Prop} (hG : mm_G M.2.2) (h : mXs k p M) (hK : K' M) : mm_CV mX12_qAsksWord (d + 2) [.ref 164, .int x] M K' := by
  have ax : ∀ i : Nat, i < 22 → mm_CV mX12_asks (d + 1) [.ref 164, .ref (217 + i)] M (fun m => K' m) := fun i hi => m_asksX hG h (sh_w i hi).1 hK
  exact rX12_qAsksWord hG (ite_go (fun _ => ax 12 (by decide)) (fun _ => ite_go (fun _ => ax 13 (by decide)) (fun _ => ite_go (fun _ => ax 14 (by decide)) (fun _ => ite_go (fun _ => ax 15 (by decide)) (fun _ => ite_go (fun _ => ax 16 (by decide)) (fun _ => ite_go (fun _ => ax 17 (by decide)) (fun _ => ite_go (fun _ => ax 18 (by decide)) (fun _ => ite_go (fun _ => ax 19 (by decide)) (fun _ => ite_go (fun _ => ax 20 (by decide)) (fun _ => ax 21 (by decide)))))))))))
theorem m_stepA (hG : mm_G M.2.2) (h : mQs T tk q C S B o M) (hb : C.length + (S ++ B).length + e ≤ q) (hc : cnt (S ++ B) ≤ o) (next : ∀ m', offM wQs M m' → mRl T tk e B (smA T tk q C S o) m' → mSm d K y (smA T tk q C S o).1 m') : jX12_qPartTold_2 (d + 9) M (KA d K y) 1 := by
  have hbad : M.1 164 5 = 0 := by obtain ⟨p, h⟩ := h.1; exact h.2.1
  have hn : T.2 ≤ 1600 := by obtain ⟨p, h⟩ := h.1; exact h.1.2.1
  have hq := mLx_q h.1
  have htk := h.2.2.2.2.2.2.2.2.1
  have ho6 := h.2.2.2.2.2.2.2.2.2.1
  have hnx := nxt_b hq
  have G : ∀ m, offM wQs M m → mm_G m.2.2 := fun m o' => by rw [o'.2.2]; exact hG
  have hlen : ∀ v : Nat, (v :: S ++ B).length = (S ++ B).length + 1 := fun v => rfl
  have bx : ∀ (k p : Nat) (z : Int32), smA T tk q C S o = xC k p → ∀ m', offM wQs M m' → xOk k p m' → jX12_qPartTold_2 (d + 9) m' (KA d K y) z := fun k p z e' m' o' x => by
    have nx := next m' o'
    rw [e'] at nx
    exact x_P (G m' o') x.1 (nx x)
  have g0 : ∀ (q' v : Nat), smA T tk q C S o = (0, q', C, v :: S, o + 1) → q + 1 ≤ q' → ∀ m', offM wQs M m' → mQs T tk q' C (v :: S) B (o + 1) m' → jX12_qPartTold_2 (d + 9) m' (KA d K y) 1 := fun q' v e' hq' m' o' s' => by
    have nx := next m' o'
    rw [e'] at nx
    exact nx ⟨s', by show C.length + (v :: S ++ B).length + e ≤ q'; rw [hlen]; omega, by show cnt (v :: (S ++ B)) ≤ o + 1; rw [cnt_c]; split <;> omega⟩
  have g1 : ∀ (q' c : Nat), smA T tk q C S o = (1, q', C ++ [c], S, o) → q + 1 ≤ q' → ∀ m', offM wQs M m' → mQs T tk q' (C ++ [c]) S B o m' → mm_CV mX12_qEndsPart (d + 9) [.ref 164] m' (fun m241 => KA d K y m241) := fun q' c e' hq' m' o' s' => by
    have nx := next m' o'
    rw [e'] at nx
    have nx := nx ⟨s', by show (C ++ [c]).length + (S ++ B).length + e ≤ q'; rw [List.length_append]; show C.length + 1 + _ + e ≤ q'; omega, hc⟩
    exact (nx (KA d K y) (fun m2 hG2 hb2 f2 => ipos hb2 f2.2)).2
  refine lX12_qPartTold_2 hG (ineg (by decide) (ipos hbad (m_lookP hG h.1 (fun m1 o1 l1 => ?_))))
  have o1' : offM wLx M m1 := offM_mono o1 (fun c j z => by unfold wLx; omega)
  have s1 := mQs_lx h o1' ⟨_, l1⟩
  refine m_wordOf (lo := 8) (hi := 10) (d := d + 6) (G m1 (wLx_Q o1')) s1 (Or.inr ⟨rfl, rfl⟩) (fun m2 o2 s2 l2 => ?_)
  have o2' := wLx_Q (offM_tr o1' o2)
  have hG2 := G m2 o2'
  refine ite_go (fun e40 => ?_) (fun e40 => ?_)
  · have hs : isS T q 40 = true := (look_S (by decide) (by decide)).mp e40
    have em : smA T tk q C S o = if o = 6 then xC 4 q else (0, nxt T q, C, 20 :: S, o + 1) := by unfold smA; rw [if_pos hs]
    rw [l2.2.2.2.2.1]
    refine m_opensP (v := 20) (pl := q) hG2 s2 (by omega) (by omega) (by omega) (fun ho m3 o3 s3 p3 p4 => ?_) (fun ho m3 o3 x3 => ?_)
    · have l3 := mLx_p s3.1 (p3.trans l2.2.2.2.2.1)
      exact g0 (nxt T q) 20 (by rw [em, if_neg (by omega)]) (hnx.2.2 (isS_lt hs).1) _ (offM_tr (offM_tr o2' o3) (offM_uI (by unfold wQs wLx; omega))) (mQs_adv s3 l3 hs (by decide))
    · exact bx 4 q 1 (by rw [em, if_pos ho]) _ (offM_tr (offM_tr o2' (wLx_Q o3)) (offM_uI (by unfold wQs wLx; omega))) (xOk_of s2 (by omega) (offM_tr o3 (offM_uI (by unfold wLx; omega))) (mXs_off x3 (offM_uI (W := fun c j => c = 164 ∧ j = 2) ⟨rfl, rfl⟩) (fun c j z => by omega)))
  · have hs : isS T q 40 = false := by
      cases hh : isS T q 40 with
      | false => rfl
      | true => exact absurd ((look_S (by decide) (by decide)).mpr hh) e40
    -- least, greatest
    have tail : ∀ (y4 : Int32) (b : Nat), ((y4 = 0 ∧ b = 22) ∨ (y4 ≠ 0 ∧ b = 21)) → (wdn T q = 22 ∨ wdn T q = 23) → (if wdn T q = 22 then 21 else 22) = b → ∀ m3, offM wQs M m3 → mQs T tk (nxt T q) C S B o m3 → mm_CI mX12_look (d + 9) [.ref 164] m3 (fun z102 m102 => if z102 = 40 then (jX12_qPartTold_118 (d + 9) m102 (KA d K y) 1 y4 (m102.1 164 2)) else (jX12_qPartTold_118 (d + 9) m102 (KA d K y) 1 y4 (-1))) := fun y4 b hy hw hbe m3 o3 s3 => by
      have hwn : wdn T q ≠ -1 := by rcases hw with z | z <;> rw [z] <;> decide
      have l0 := hnx.2.2 (wd_lt hwn)
      have em : smA T tk q C S o = if isS T (nxt T q) 40 then (if o = 6 then xC 4 (nxt T q) else (0, nxt T (nxt T q), C, b :: S, o + 1)) else xC 1 (nxt T q) := by
        unfold smA; rw [if_neg (by rw [hs]; decide), if_pos hw, hbe]
      refine m_lookP (G m3 o3) s3.1 (fun m4 o4 l4 => ?_)
      have o4' : offM wLx m3 m4 := offM_mono o4 (fun c j z => by unfold wLx; omega)
      have s4 := mQs_lx s3 o4' ⟨_, l4⟩
      have o5 := offM_tr o3 (wLx_Q o4')
      refine ite_go (fun e => ?_) (fun e => ?_)
      · have hs2 : isS T (nxt T q) 40 = true := (look_S (by decide) (by decide)).mp e
        have hq2 := (isS_lt hs2).1
        have hnx2 := nxt_b hnx.2.1
        rw [if_pos hs2] at em
        rw [l4.2.2.2.2.1]
        have body : ∀ v : Nat, v = b → mm_CV mX12_qOpens (d + 9) [.ref 164, .int (nI v), .int (nI (nxt T q))] m4 (fun m141 => mm_CV mX12_asksSign (d + 9) [.ref 164, .int 40] m141 (fun m147 => jX12_qPartTold_2 (d + 9) m147 (KA d K y) 1)) := fun v hv => by
          subst hv
          refine m_opensP (v := v) (pl := nxt T q) (G m4 o5) s4 (by omega) (by omega) (by omega) (fun ho m6 o6 s6 p6 _ => m_asksS (G m6 (offM_tr o5 o6)) s6.1 (by decide) (by decide) (fun _ m7 o7 l7 => ?_) (fun z => by rw [hs2] at z; cases z)) (fun ho m6 o6 x6 => m_asksSX (G m6 (offM_tr o5 (wLx_Q o6))) x6 (bx 4 _ 1 (by rw [em, if_pos ho]) m6 (offM_tr o5 (wLx_Q o6)) (xOk_of s4 (by omega) o6 x6)))
          exact g0 _ v (by rw [em, if_neg (by omega)]) (by have := hnx2.1; omega) m7 (offM_tr (offM_tr o5 o6) (wLx_Q o7)) (mQs_lx s6 o7 l7)
        refine lX12_qPartTold_118 (G m4 o5) (ineg (nI_nm1 (b := nxt T q) (by omega)) ?_)
        rcases hy with ⟨y0, b0⟩ | ⟨y0, b0⟩
        · exact ipos y0 (body 22 b0.symm)
        · exact ineg y0 (body 21 b0.symm)
      · have hs2 : isS T (nxt T q) 40 = false := by
          cases hh : isS T (nxt T q) 40 with
          | false => rfl
          | true => exact absurd ((look_S (by decide) (by decide)).mpr hh) e
        rw [if_neg (by rw [hs2]; decide)] at em
        exact lX12_qPartTold_118 (G m4 o5) (ipos rfl (m_asksS (G m4 o5) s4.1 (by decide) (by decide) (fun z => by rw [hs2] at z; cases z) (fun _ m7 o7 x7 => bx 1 _ 1 em m7 (offM_tr o5 (wLx_Q o7)) (xOk_of s4 (by omega) o7 x7))))
    refine m_hereQ (i := 10) (d := d + 8) (by omega) hG2 s2 (fun w22 m3 o3 s3 l3 => ineg (by decide) ?_) (fun w22 m3 o3 s3 l3 => ipos rfl (m_hereQ (i := 11) (d := d + 8) (by omega) (G m3 (offM_tr o2' (wLx_Q o3))) s3 (fun w23 m4 o4 s4 l4 => ineg (by decide) ?_) (fun w23 m4 o4 s4 l4 => ipos rfl ?_)))
    · have w22 : wdn T q = 22 := w22
      have o3' := offM_tr o2' (wLx_Q o3)
      refine lX12_qPartTold_78 (G m3 o3') (m_takesQ (i := 10) (d := d + 7) (by omega) (G m3 o3') s3 (fun _ m4 o4 s4 => ineg (by decide) (tail 1 21 (Or.inr ⟨by decide, rfl⟩) (Or.inl w22) (by rw [if_pos w22]) m4 (offM_tr o3' (wLx_Q o4)) s4)) (fun z => absurd w22 z))
    · have w23 : wdn T q = 23 := w23
      have w22 : ¬ wdn T q = 22 := w22
      have o4' := offM_tr (offM_tr o2' (wLx_Q o3)) (wLx_Q o4)
      refine lX12_qPartTold_78 (G m4 o4') (m_takesQ (i := 10) (d := d + 7) (by omega) (G m4 o4') s4 (fun z => absurd z w22) (fun _ m5 o5 s5 l5 => ipos rfl (m_asksQ (i := 11) (d := d + 6) (by omega) (G m5 (offM_tr o4' (wLx_Q o5))) s5 (fun _ m6 o6 s6 => tail 0 22 (Or.inl ⟨rfl, rfl⟩) (Or.inr w23) (by rw [if_neg w22]) m6 (offM_tr (offM_tr o4' (wLx_Q o5)) (wLx_Q o6)) s6) (fun z => absurd w23 z))))
    · have w22 : ¬ wdn T q = 22 := w22
      have w23 : ¬ wdn T q = 23 := w23
      have o4' := offM_tr (offM_tr o2' (wLx_Q o3)) (wLx_Q o4)
      have hG4 := G m4 o4'
      by_cases hof : tk = 3 ∧ (wdn T q = 6 ∨ wdn T q = 8)
      · -- of a number
        obtain ⟨h3, hw⟩ := hof
        have hwn : wdn T q ≠ -1 := by rcases hw with z | z <;> rw [z] <;> decide
        have l0 := hnx.2.2 (wd_lt hwn)
        have em : smA T tk q C S o = if o = 6 then xC 4 q else (0, nxt T q, C, (if wdn T q = 6 then 60 else 61) :: S, o + 1) := by
          unfold smA; rw [if_neg (by rw [hs]; decide), if_neg (by rintro (z | z); exact w22 z; exact w23 z), if_pos ⟨h3, hw⟩]
        have body : ∀ (p v : Nat), (p = 8 ∨ p = 9) → woR 8 tk (wdn T q) = nI p → wdn T q = nI (wq.getD (12 + p) 0) → (60 + nI p) - 8 = nI v → (v = 60 ∨ v = 61) → (if wdn T q = 6 then 60 else 61) = v → (if woR 8 tk (wdn T q) = -1 then jX12_qPartTold_2 (d + 9) m4 (KA d K y) 0 else mm_CV mX12_qOpens (d + 9) [.ref 164, .int ((60 + woR 8 tk (wdn T q)) - 8), .int (m4.1 164 2)] m4 (fun m170 => mm_CV mX12_qAsksWord (d + 9) [.ref 164, .int (woR 8 tk (wdn T q))] m170 (fun m175 => jX12_qPartTold_2 (d + 9) m175 (KA d K y) 1))) := fun p v hp ew hwq ev hv hbe => by
          rw [hbe] at em
          rw [ew, ev, l4.2.2.2.2.1]
          refine ineg (nI_nm1 (b := p) (by omega)) (m_opensP (v := v) (pl := q) hG4 s4 (by omega) (by omega) (by omega) (fun ho m5 o5 s5 _ _ => m_asksWord (d := d + 5) (p := p) (by omega) (G m5 (offM_tr o4' o5)) s5 hwq (fun m6 o6 s6 => g0 _ v (by rw [em, if_neg (by omega)]) l0 m6 (offM_tr (offM_tr o4' o5) (wLx_Q o6)) s6)) (fun ho m5 o5 x5 => m_asksWordX (d := d + 7) (G m5 (offM_tr o4' (wLx_Q o5))) x5 (bx 4 q 1 (by rw [em, if_pos ho]) m5 (offM_tr o4' (wLx_Q o5)) (xOk_of s4 (by omega) o5 x5))))
        rcases hw with w6 | w8
        · exact body 8 60 (Or.inl rfl) (by unfold woR; rw [if_neg (by decide), if_pos ⟨h3, w6⟩]; rfl) (by rw [w6]; decide) (by decide) (Or.inl rfl) (by rw [if_pos w6])
        · have w6 : ¬ wdn T q = 6 := by rw [w8]; decide
          exact body 9 61 (Or.inr rfl) (by unfold woR; rw [if_neg (by decide), if_neg (fun z => w6 z.2), if_pos ⟨h3, w8⟩]; rfl) (by rw [w8]; decide) (by decide) (Or.inr rfl) (by rw [if_neg w6])
      · have ew : woR 8 tk (wdn T q) = -1 := by
          unfold woR
          rw [if_neg (by decide), if_neg (fun z => hof ⟨z.1, Or.inl z.2⟩), if_neg (fun z => hof ⟨z.1, Or.inr z.2⟩)]
        have em : smA T tk q C S o = match prt tk (wdn T q) with
            | some p => (1, nxt T q, C ++ [40 + p], S, o)
            | none => if tkk T q = 2 then (if ten T q - q ≤ 4 then (1, nxt T q, C ++ [1000 + (vlu T q).toInt.toNat], S, o) else xC 1 (q + 4)) else xC 1 q := by
          unfold smA; rw [if_neg (by rw [hs]; decide), if_neg (by rintro (z | z); exact w22 z; exact w23 z), if_neg hof]
          cases prt tk (wdn T q) <;> rfl
        rw [ew]
        refine ipos rfl (lX12_qPartTold_2 hG4 (ipos rfl (lX12_qPartTold_186 hG4 (ipos l4.2.1 (m_wordOf (lo := 0) (hi := 8) (d := d + 6) hG4 s4 (Or.inl ⟨rfl, rfl⟩) (fun m5 o5 s5 l5 => ?_))))))
        have o5' := offM_tr o4' (wLx_Q o5)
        have hG5 := G m5 o5'
        unfold woR
        rw [if_pos rfl]
        cases hpr : prt tk (wdn T q) with
        | some p =>
          rw [hpr] at em
          have hp8 := prt_lt hpr
          have hwq := prt_wq tk _ p hpr
          have hwn : wdn T q ≠ -1 := fun z => by rw [z, prt_m1] at hpr; cases hpr
          have l0 := hnx.2.2 (wd_lt hwn)
          refine ineg (nI_nm1 (b := p) (by omega)) (m_asksWord (d := d + 5) (p := p) (by omega) hG5 s5 hwq (fun m6 o6 s6 => ?_))
          have o6' := offM_tr o5' (wLx_Q o6)
          refine lX12_qPartTold_212 (G m6 o6') (ineg (nI_nm1 (b := p) (by omega)) ?_)
          show mm_CV mX12_qCode (d + 9) [.ref 164, .int (nI 40 + nI p)] m6 _
          rw [nI_add]
          exact m_qCodeP (G m6 o6') s6 (by omega) (fun m7 o7 s7 => g1 _ (40 + p) em l0 m7 (offM_tr o6' o7) s7)
        | none =>
          rw [hpr] at em
          refine ipos rfl (lX12_qPartTold_212 hG5 (ipos rfl (m_num (lo := 0) (hi := 9999) (d := d + 8) hG5 s5.1 (by omega) (by omega) (fun en m6 o6 l6 => ?_) (fun k p en z m6 o6 x6 => ?_))))
          · have em' : smA T tk q C S o = if tkk T q = 2 then (if ten T q - q ≤ 4 then (1, nxt T q, C ++ [1000 + (vlu T q).toInt.toNat], S, o) else xC 1 (q + 4)) else xC 1 q := em
            unfold nuX at en
            have hv := vlu_b hq
            by_cases c2 : tkk T q = 2
            · rw [if_pos c2] at en em'
              by_cases c4 : ten T q - q ≤ 4
              · rw [if_pos c4] at em'
                have l0 := hnx.2.2 (by
                  rcases tkk_c T q with ⟨a1, a2, a3⟩ | ⟨a1, a2, a3, a4, a5⟩ | ⟨a1, a2, a3, a4, a5⟩ | ⟨a1, a2, a3, a4⟩
                  · rw [a1] at c2; exact absurd c2 (by decide)
                  · exact a2
                  · exact a2
                  · exact a2)
                have o6' := offM_tr o5' (wLx_Q o6)
                have s6 := mQs_lx s5 o6 l6
                have ev : (1000 : Int32) + vlu T q = nI (1000 + (vlu T q).toInt.toNat) := by
                  have := i32_nI hv.1
                  rw [show (1000 : Int32) = nI 1000 from rfl, ← nI_add, ← this]
                rw [ev]
                exact m_qCodeP (G m6 o6') s6 (by omega) (fun m7 o7 s7 => g1 _ _ em' l0 m7 (offM_tr o6' o7) s7)
              · rw [if_neg c4] at en; cases en
            · rw [if_neg c2] at en; cases en
          · have em' : smA T tk q C S o = if tkk T q = 2 then (if ten T q - q ≤ 4 then (1, nxt T q, C ++ [1000 + (vlu T q).toInt.toNat], S, o) else xC 1 (q + 4)) else xC 1 q := em
            have hx : smA T tk q C S o = xC k p := by
              unfold nuX at en
              have hv := vlu_b hq
              by_cases c2 : tkk T q = 2
              · rw [if_pos c2] at en em'
                by_cases c4 : ten T q - q ≤ 4
                · rw [if_pos c4, if_pos (by omega)] at en; cases en
                · rw [if_neg c4] at en em'
                  obtain ⟨rfl, rfl⟩ := Prod.mk.inj (Option.some.inj en)
                  exact em'
              · rw [if_neg c2] at en em'
                obtain ⟨rfl, rfl⟩ := Prod.mk.inj (Option.some.inj en)
                exact em'
            have o6' := offM_tr o5' (wLx_Q o6)
            have g105 : m6.1 164 105 = nI C.length := by rw [o6.1 _ _ (by unfold wLx; omega)]; exact s5.2.1
            refine rX12_qCode (G m6 o6') ?_
            rw [g105, nI_clamp (by omega)]
            refine ⟨vp_in_nI (by omega) (by decide), ?_⟩
            have o7 : offM (fun c j => c = 239 ∨ (c = 164 ∧ j = 105)) m6 (mm_uI (mm_uI m6 239 C.length (1000 + z)) 164 105 ((mm_uI m6 239 C.length (1000 + z)).1 164 105 + 1)) := offM_tr (offM_uI (Or.inl rfl)) (offM_uI (Or.inr ⟨rfl, rfl⟩))
            have o7' := offM_tr o6' (offM_mono o7 (fun c j z => by unfold wQs; omega))
            have x7 := mXs_off x6 o7 (fun c j z => by omega)
            have nx := next _ o7'
            rw [hx] at nx
            exact rX12_qEndsPart (G _ o7') (ineg (mXn0 x7) (show KA d K y _ from ineg (mXn0 x7) (x_15 (G _ o7') x7 (nx ⟨x7, C.length + 1, by omega, by rw [uI_at, uI_c (by decide), g105, nI_1]⟩))))
end
