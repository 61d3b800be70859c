/-! ===== the class's reader: what it has read and emitted ===== -/
def msk (tk : Nat) : Int32 := if tk = 0 then 24652 else if tk = 1 then 24588 else if tk = 2 then 41024 else if tk = 3 then 221196 else Int32.ofNat (tk - 4)
theorem msk_any (x : Int32) : ∃ tk, tk ≠ 3 ∧ msk tk = x := by
  refine ⟨4 + x.toBitVec.toNat, by omega, ?_⟩
  unfold msk
  rw [if_neg (by omega), if_neg (by omega), if_neg (by omega), if_neg (by omega), show 4 + x.toBitVec.toNat - 4 = x.toBitVec.toNat by omega]
  apply Int32.toBitVec_inj.mp
  show BitVec.ofNat 32 x.toBitVec.toNat = x.toBitVec
  simp
def wPr (a r c j : Nat) : Prop := (c = a ∧ 2 ≤ j ∧ j ≤ 14 ∧ j ≠ 11 ∧ j ≠ 12) ∨ c = r
/-- without a fault: at the token at q, with C emitted from place s of the row r on -/
def cPs (T : dT) (tk a r s q : Nat) (C : List Nat) (o : Nat) (M : mm_M) : Prop := cTx T a M ∧ cTk T a q M ∧ M.1 a 8 = 0 ∧ M.1 a 9 = -1 ∧ M.1 a 10 = nI o ∧ M.2.2 a 13 = some r ∧ M.1 a 14 = nI (s + C.length) ∧ (∀ (j c : Nat), C[j]? = some c → (M.1 r (s + j)).toInt = tau (c : Int)) ∧ M.1 a 11 = msk tk ∧ M.1 a 12 = (if tk = 3 then 1 else 0)
/-- with a fault -/
def cXs (a r k p : Nat) (M : mm_M) : Prop := M.1 a 8 = nI k ∧ M.1 a 9 = nI p ∧ 1 ≤ k ∧ k ≤ 5 ∧ p ≤ 1600 ∧ M.2.2 a 13 = some r
/-- what never changes while a text is read -/
def cX0 (a r : Nat) : Prop := a ∈ mm_Rds ∧ mm_SH[r]? = some (0, 1608) ∧ r ≠ a ∧ r ≠ 1
theorem cTk_off {W : Nat → Nat → Prop} {T : dT} {a q : Nat} {M m : mm_M} (h : cTk T a q M) (o : offM W M m) (hW : ∀ j, 2 ≤ j → j ≤ 7 → ¬ W a j) : cTk T a q m := by
  obtain ⟨h1, h2, h3, h4, h5, h6⟩ := h
  have g : ∀ j, 2 ≤ j → j ≤ 7 → m.1 a j = M.1 a j := fun j j1 j2 => o.1 _ _ (hW j j1 j2)
  exact ⟨by rw [g 4 (by omega) (by omega)]; exact h1, by rw [g 3 (by omega) (by omega)]; exact h2, by rw [g 5 (by omega) (by omega)]; exact h3, by rw [g 2 (by omega) (by omega)]; exact h4, fun z => by rw [g 6 (by omega) (by omega)]; exact h5 z, fun z => by rw [g 7 (by omega) (by omega)]; exact h6 z⟩
theorem nI_n0 {k : Nat} (h1 : 1 ≤ k) (h2 : k < 2 ^ 31) : ¬ nI k = 0 := fun z => by
  have : k = 0 := (nI_eq (b := 0) h2 (by decide)).mp z
  omega
section
variable {T : dT} {tk a r s q o d : Nat} {C : List Nat} {M : mm_M}
theorem c_nextP {K : mm_M → Prop} (h0 : cX0 a r) (hG : mm_G M.2.2) (hs : cPs T tk a r s q C o M) (hq : q ≤ T.2) (hK : ∀ m, offM (wPr a r) M m → cPs T tk a r s (nxt T q) C o m → K m) : mm_CV mX6_next (d + 5) [.ref a] M K := by
  obtain ⟨p1, p2, p3, p4, p5, p6, p7, p8, p9, p10⟩ := hs
  obtain ⟨ha, hr, hra, hr1⟩ := h0
  have hne := Rd_ne ha
  refine c_next ha hG p1 (ten_b hq).2.1 p2.2.2.2.1 (fun m o' t => hK m (offM_mono o' (fun c j z => by unfold wNx at z; unfold wPr; omega)) ?_)
  exact ⟨cTx_off p1 o' (fun c j z => by unfold wNx at z; omega), t, by rw [o'.1 _ _ (by unfold wNx; omega)]; exact p3, by rw [o'.1 _ _ (by unfold wNx; omega)]; exact p4, by rw [o'.1 _ _ (by unfold wNx; omega)]; exact p5, by rw [o'.2.2]; exact p6, by rw [o'.1 _ _ (by unfold wNx; omega)]; exact p7, fun j c hc => by rw [o'.1 _ _ (by unfold wNx; omega)]; exact p8 j c hc, by rw [o'.1 _ _ (by unfold wNx; omega)]; exact p9, by rw [o'.1 _ _ (by unfold wNx; omega)]; exact p10⟩
theorem c_refuseP {K : mm_M → Prop} {k p : Nat} (h0 : cX0 a r) (hG : mm_G M.2.2) (hs : cPs T tk a r s q C o M) (hk : 1 ≤ k ∧ k ≤ 5) (hp : p ≤ 1600) (hK : ∀ m, offM (wPr a r) M m → cXs a r k p m → K m) : mm_CV mX6_refuse d [.ref a, .int (nI k), .int (nI p)] M K := by
  obtain ⟨p1, p2, p3, p4, p5, p6, p7, p8, p9, p10⟩ := hs
  exact rX6_refuse h0.1 hG (ipos p3 (hK _ (offM_tr (offM_uI (by unfold wPr; omega)) (offM_uI (by unfold wPr; omega))) ⟨by rw [uI_j (by decide)]; exact uI_at _ _ _ _, uI_at _ _ _ _, hk.1, hk.2, hp, p6⟩))
theorem c_refuseX {K : mm_M → Prop} {k p : Nat} {x y : Int32} (h0 : cX0 a r) (hG : mm_G M.2.2) (hs : cXs a r k p M) (hK : K M) : mm_CV mX6_refuse d [.ref a, .int x, .int y] M K :=
  rX6_refuse h0.1 hG (ineg (by rw [hs.1]; exact nI_n0 hs.2.2.1 (by have := hs.2.2.2.1; omega)) hK)
theorem c_isSign {K : Int32 → mm_M → Prop} {c : Int32} (h0 : cX0 a r) (hG : mm_G M.2.2) (hs : cPs T tk a r s q C o M) (h1 : isS T q c = true → K 1 M) (h2 : isS T q c = false → K 0 M) : mm_CI mX6_isSign d [.ref a, .int c] M K := by
  obtain ⟨t1, t2, t3, t4, t5, t6⟩ := hs.2.1
  refine rX6_isSign h0.1 hG ?_
  rw [t2]
  unfold isS at h1 h2
  refine ite_go (fun c1 => ?_) (fun c1 => h2 (decide_eq_false (fun z => c1 z.1)))
  rw [t5 (by rw [c1]; decide)]
  exact ite_go (fun c2 => h1 (decide_eq_true ⟨c1, c2⟩)) (fun c2 => h2 (decide_eq_false (fun z => c2 z.2)))
theorem c_emitP {K : mm_M → Prop} {c : Nat} {x : Int32} (h0 : cX0 a r) (hG : mm_G M.2.2) (hs : cPs T tk a r s q C o M) (hb : s + C.length < 1608) (hx : x.toInt = tau (c : Int)) (hK : ∀ m, offM (wPr a r) M m → cPs T tk a r s q (C ++ [c]) o m → K m) : mm_CV mX6_emit d [.ref a, .int x] M K := by
  obtain ⟨p1, p2, p3, p4, p5, p6, p7, p8, p9, p10⟩ := hs
  obtain ⟨ha, hr, hra, hr1⟩ := h0
  have hne := Rd_ne ha
  refine rX6_emit ha hG ?_
  rw [p7, nI_clamp (by omega)]
  refine ineg (nI_pos (by omega)) ⟨r, p6, hr, ineg (nI_ge hb (by decide)) ⟨r, p6, hr, vp_in_nI hb (by decide), ?_⟩⟩
  rw [uI_c hra.symm, p7, nI_1]
  have o' : offM (fun c j => (c = a ∧ j = 14) ∨ c = r) M (mm_uI (mm_uI M r (s + C.length) x) a 14 (nI (s + C.length + 1))) := offM_tr (offM_uI (Or.inr rfl)) (offM_uI (Or.inl ⟨rfl, rfl⟩))
  refine hK _ (offM_mono o' (fun c j z => by unfold wPr; omega)) ⟨cTx_off p1 o' (fun c j z => by omega), cTk_off p2 o' (fun j j1 j2 z => by omega), by rw [o'.1 _ _ (by omega)]; exact p3, by rw [o'.1 _ _ (by omega)]; exact p4, by rw [o'.1 _ _ (by omega)]; exact p5, p6, ?_, fun j y hy => ?_, by rw [o'.1 _ _ (by omega)]; exact p9, by rw [o'.1 _ _ (by omega)]; exact p10⟩
  · rw [uI_at, List.length_append]; rfl
  · rw [uI_c hra]
    by_cases e : j = C.length
    · subst e
      rw [List.getElem?_append_right (Nat.le_refl _), Nat.sub_self] at hy
      obtain rfl : c = y := Option.some.inj hy
      rw [uI_at]; exact hx
    · have hl : j < (C ++ [c]).length := (List.getElem?_eq_some_iff.mp hy).1
      rw [List.length_append] at hl
      have hl : j < C.length + 1 := hl
      rw [List.getElem?_append_left (by omega)] at hy
      rw [uI_j (by omega)]; exact p8 j y hy
theorem c_emitX {K : mm_M → Prop} {k p : Nat} {x : Int32} (h0 : cX0 a r) (hG : mm_G M.2.2) (hs : cXs a r k p M) (hK : ∀ m, offM (wPr a r) M m → cXs a r k p m → K m) : mm_CV mX6_emit d [.ref a, .int x] M K := by
  obtain ⟨x1, x2, x3, x4, x5, x6⟩ := hs
  obtain ⟨ha, hr, hra, hr1⟩ := id h0
  refine rX6_emit ha hG (ite_go (fun _ => hK M offM_rf ⟨x1, x2, x3, x4, x5, x6⟩) (fun c1 => ⟨r, x6, hr, ite_go (fun _ => hK M offM_rf ⟨x1, x2, x3, x4, x5, x6⟩) (fun c2 => ⟨r, x6, hr, ?_, ?_⟩)⟩))
  · have c1 := mt i32_lt.mpr c1
    have c2 := mt i32_le.mpr c2
    rw [nI_toInt (by decide)] at c2
    have e0 : (0 : Int32).toInt = 0 := rfl
    rw [i32_nI (x := M.1 a 14) (by omega)]
    exact vp_in_nI (by omega) (by decide)
  · have o' : offM (fun c j => (c = a ∧ j = 14) ∨ c = r) M (mm_uI (mm_uI M r (M.1 a 14).toNatClampNeg x) a 14 (((mm_uI M r (M.1 a 14).toNatClampNeg x).1 a 14) + 1)) := offM_tr (offM_uI (Or.inr rfl)) (offM_uI (Or.inl ⟨rfl, rfl⟩))
    exact hK _ (offM_mono o' (fun c j z => by unfold wPr; omega)) ⟨by rw [o'.1 _ _ (by omega)]; exact x1, by rw [o'.1 _ _ (by omega)]; exact x2, x3, x4, x5, x6⟩
theorem cXs_off {W : Nat → Nat → Prop} {k p : Nat} {m : mm_M} (h : cXs a r k p M) (o' : offM W M m) (hW : ∀ c j, W c j → ¬ (c = a ∧ (j = 8 ∨ j = 9))) : cXs a r k p m := by
  obtain ⟨x1, x2, x3, x4, x5, x6⟩ := h
  exact ⟨by rw [o'.1 _ _ (fun z => hW _ _ z ⟨rfl, Or.inl rfl⟩)]; exact x1, by rw [o'.1 _ _ (fun z => hW _ _ z ⟨rfl, Or.inr rfl⟩)]; exact x2, x3, x4, x5, by rw [o'.2.2]; exact x6⟩
theorem cPs_o {o' : Nat} (hs : cPs T tk a r s q C o M) (h0 : cX0 a r) : cPs T tk a r s q C o' (mm_uI M a 10 (nI o')) := by
  obtain ⟨p1, p2, p3, p4, p5, p6, p7, p8, p9, p10⟩ := hs
  obtain ⟨ha, hr, hra, hr1⟩ := h0
  have hne := Rd_ne ha
  have oo : offM (fun c j => c = a ∧ j = 10) M (mm_uI M a 10 (nI o')) := offM_uI ⟨rfl, rfl⟩
  exact ⟨cTx_off p1 oo (fun c j z => by omega), cTk_off p2 oo (fun j j1 j2 z => by omega), by rw [oo.1 _ _ (by omega)]; exact p3, by rw [oo.1 _ _ (by omega)]; exact p4, uI_at _ _ _ _, p6, by rw [oo.1 _ _ (by omega)]; exact p7, fun j c hc => by rw [oo.1 _ _ (by omega)]; exact p8 j c hc, by rw [oo.1 _ _ (by omega)]; exact p9, by rw [oo.1 _ _ (by omega)]; exact p10⟩
/-- what is opened next -/
theorem c_openP {K : mm_M → Prop} (h0 : cX0 a r) (hG : mm_G M.2.2) (hs : cPs T tk a r s q C o M) (hq : q ≤ T.2) (ho : o ≤ 6) (h1 : o < 6 → ∀ m, offM (wPr a r) M m → cPs T tk a r s (nxt T q) C (o + 1) m → K m) (h2 : o = 6 → ∀ m, offM (wPr a r) M m → cXs a r 4 q m → K m) : mm_CV mX6_openNext (d + 6) [.ref a] M K := by
  have hn := hs.1.2.1
  refine rX6_openNext h0.1 hG ?_
  rw [hs.2.2.2.2.1, hs.2.1.1]
  by_cases c : o < 6
  · refine ipos (nI_lt (b := 6) c (by decide)) (c_nextP h0 hG hs hq (fun m o' s' => ?_))
    rw [s'.2.2.2.2.1, nI_1]
    exact h1 c _ (offM_tr o' (offM_uI (by unfold wPr; omega))) (cPs_o s' h0)
  · obtain rfl : o = 6 := by omega
    refine ineg (by decide) (c_refuseP (k := 4) (p := q) h0 hG hs (by omega) (by omega) (fun m o' s' => h2 rfl _ (offM_tr o' (offM_uI (by unfold wPr; omega))) (cXs_off s' (offM_uI (W := fun c j => c = a ∧ j = 10) ⟨rfl, rfl⟩) (fun c j z => by omega))))
theorem c_expSign {K : mm_M → Prop} {c : Int32} (h0 : cX0 a r) (hG : mm_G M.2.2) (hs : cPs T tk a r s q C o M) (hq : q ≤ T.2) (h1 : isS T q c = true → ∀ m, offM (wPr a r) M m → cPs T tk a r s (nxt T q) C o m → K m) (h2 : isS T q c = false → ∀ m, offM (wPr a r) M m → cXs a r 1 q m → K m) : mm_CV mX6_expectSign (d + 6) [.ref a, .int c] M K := by
  have hn := hs.1.2.1
  refine rX6_expectSign h0.1 hG (ipos hs.2.2.1 (c_isSign h0 hG hs (fun z => ineg (by decide) (c_nextP h0 hG hs hq (h1 z))) (fun z => ipos rfl ?_)))
  rw [hs.2.1.1]
  exact c_refuseP (k := 1) (p := q) h0 hG hs (by omega) (by omega) (h2 z)
theorem c_expSignX {K : mm_M → Prop} {c : Int32} {k p : Nat} (h0 : cX0 a r) (hG : mm_G M.2.2) (hs : cXs a r k p M) (hK : K M) : mm_CV mX6_expectSign (d + 1) [.ref a, .int c] M K :=
  rX6_expectSign h0.1 hG (ineg (by rw [hs.1]; exact nI_n0 hs.2.2.1 (by have := hs.2.2.2.1; omega)) (c_refuseX h0 hG hs hK))
theorem X_n0 {k p : Nat} (hs : cXs a r k p M) : ¬ M.1 a 8 = 0 := by rw [hs.1]; exact nI_n0 hs.2.2.1 (by have := hs.2.2.2.1; omega)
end
