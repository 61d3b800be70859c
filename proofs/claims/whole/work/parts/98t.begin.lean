/-! ===== the class begins to read a text ===== -/
def wBg (a c j : Nat) : Prop := c = a ∧ j ≠ 11 ∧ j ≠ 12
theorem uR_off {M : mm_M} {a k : Nat} {x : Option Nat} : offA (fun c j => c = a ∧ j = k) M (mm_uR M a k x) := by
  refine ⟨fun _ _ _ => rfl, fun _ _ _ => rfl, fun c j h => ?_⟩
  simp only [mm_uR]
  by_cases hc : c = a
  · subst hc
    have hj : j ≠ k := fun z => h ⟨rfl, z⟩
    simp [va_up, hj]
  · simp [va_up, hc]
theorem uR_at {M : mm_M} {a k : Nat} {x : Option Nat} : (mm_uR M a k x).2.2 a k = x := by
  simp [mm_uR, va_up]
theorem fin_Rd : ∀ q ∈ mm_FIN, ¬ ((q.1 = 5 ∨ q.1 = 17) ∧ (q.2.1 = 0 ∨ q.2.1 = 13)) := by decide +kernel
theorem G_Rd {W : Nat → Nat → Prop} {M m : mm_M} (hG : mm_G M.2.2) (o : offA W M m) (hW : ∀ c j, W c j → (c = 5 ∨ c = 17) ∧ (∀ i : Option Nat, (m.2.2 c j = M.2.2 c j) ∨ (j = 0 ∨ j = 13))) : mm_G m.2.2 := by
  intro q hq
  have hf := fin_Rd q hq
  by_cases hw : W q.1 q.2.1
  · obtain ⟨h1, h2⟩ := hW _ _ hw
    rcases h2 none with z | z
    · rw [z]; exact hG q hq
    · exact absurd ⟨h1, z⟩ hf
  · rw [o.2.2 _ _ hw]; exact hG q hq
theorem c_begin {T : dT} {a r s tk d : Nat} {x : Int32} {M : mm_M} {K : mm_M → Prop} (h0 : cX0 a r) (hG : mm_G M.2.2) (hn : T.2 ≤ 1600) (hx : x = nI T.2) (ht : ∀ j, j < T.2 → M.1 1 j = T.1 j) (h11 : M.1 a 11 = msk tk) (h12 : M.1 a 12 = (if tk = 3 then 1 else 0)) (hK : ∀ m, offA (wBg a) M m → mm_G m.2.2 → cPs T tk a r s (rn T isBl 0) [] 0 m → K m) : mm_CV mX6_begin (d + 6) [.ref a, .ref 1, .int x, .ref r, .int (nI s)] M K := by
  obtain ⟨ha, hr, hra, hr1⟩ := id h0
  have hne := Rd_ne ha
  refine rX6_begin (n1 := 1600) (n3 := 1608) ha (by decide +kernel) hr hG ?_
  have el : (if (nI 1600) < x then (nI 1600) else x) = nI T.2 := by
    rw [hx, if_neg (nI_nlt (by omega) (by decide))]
  rw [el]
  have o1 : offA (wBg a) M (mm_uI (mm_uI (mm_uI (mm_uI (mm_uI (mm_uR (mm_uI (mm_uR M a 0 (some 1)) a 1 (nI T.2)) a 13 (some r)) a 14 (nI s)) a 2 0) a 8 0) a 9 (-1)) a 10 0) := by
    have e1 := offA_mono (W' := wBg a) (uR_off (M := M) (a := a) (k := 0) (x := some 1)) (fun c j z => by unfold wBg; omega)
    have e2 := offA_of (P := wBg a) (offM_uI (W := fun c j => c = a ∧ j = 1) (M := mm_uR M a 0 (some 1)) (a := a) (k := 1) (x := nI T.2) ⟨rfl, rfl⟩) (fun c j z => by unfold wBg; omega)
    have e3 := offA_mono (W' := wBg a) (uR_off (M := mm_uI (mm_uR M a 0 (some 1)) a 1 (nI T.2)) (a := a) (k := 13) (x := some r)) (fun c j z => by unfold wBg; omega)
    refine offA_tr (offA_tr (offA_tr e1 e2) e3) (offA_of (P := wBg a) (offM_tr (offM_tr (offM_tr (offM_tr (offM_uI (W := fun c j => c = a ∧ (j = 14 ∨ j = 2 ∨ j = 8 ∨ j = 9 ∨ j = 10)) (by omega)) (offM_uI (by omega))) (offM_uI (by omega))) (offM_uI (by omega))) (offM_uI (by omega))) (fun c j z => by unfold wBg; omega))
  have r0 : (mm_uI (mm_uI (mm_uI (mm_uI (mm_uI (mm_uR (mm_uI (mm_uR M a 0 (some 1)) a 1 (nI T.2)) a 13 (some r)) a 14 (nI s)) a 2 0) a 8 0) a 9 (-1)) a 10 0).2.2 a 0 = some 1 := by
    show (mm_uR (mm_uI (mm_uR M a 0 (some 1)) a 1 (nI T.2)) a 13 (some r)).2.2 a 0 = some 1
    rw [uR_off.2.2 _ _ (by omega)]
    exact uR_at
  have r13 : (mm_uI (mm_uI (mm_uI (mm_uI (mm_uI (mm_uR (mm_uI (mm_uR M a 0 (some 1)) a 1 (nI T.2)) a 13 (some r)) a 14 (nI s)) a 2 0) a 8 0) a 9 (-1)) a 10 0).2.2 a 13 = some r := uR_at (M := mm_uI (mm_uR M a 0 (some 1)) a 1 (nI T.2))
  have ro : ∀ c j, ¬ (c = a ∧ (j = 0 ∨ j = 13)) → (mm_uI (mm_uI (mm_uI (mm_uI (mm_uI (mm_uR (mm_uI (mm_uR M a 0 (some 1)) a 1 (nI T.2)) a 13 (some r)) a 14 (nI s)) a 2 0) a 8 0) a 9 (-1)) a 10 0).2.2 c j = M.2.2 c j := fun c j z => by
    show (mm_uR (mm_uI (mm_uR M a 0 (some 1)) a 1 (nI T.2)) a 13 (some r)).2.2 c j = _
    rw [uR_off.2.2 _ _ (by omega)]
    show (mm_uR M a 0 (some 1)).2.2 c j = _
    rw [uR_off.2.2 _ _ (by omega)]
  have g1 : (mm_uI (mm_uI (mm_uI (mm_uI (mm_uI (mm_uR (mm_uI (mm_uR M a 0 (some 1)) a 1 (nI T.2)) a 13 (some r)) a 14 (nI s)) a 2 0) a 8 0) a 9 (-1)) a 10 0).1 a 1 = nI T.2 := by
    rw [uI_j (by decide), uI_j (by decide), uI_j (by decide), uI_j (by decide), uI_j (by decide)]
    exact uI_at (mm_uR M a 0 (some 1)) _ _ _
  have g14 : (mm_uI (mm_uI (mm_uI (mm_uI (mm_uI (mm_uR (mm_uI (mm_uR M a 0 (some 1)) a 1 (nI T.2)) a 13 (some r)) a 14 (nI s)) a 2 0) a 8 0) a 9 (-1)) a 10 0).1 a 14 = nI s := by rw [uI_j (by decide), uI_j (by decide), uI_j (by decide), uI_j (by decide), uI_at]
  have g2 : (mm_uI (mm_uI (mm_uI (mm_uI (mm_uI (mm_uR (mm_uI (mm_uR M a 0 (some 1)) a 1 (nI T.2)) a 13 (some r)) a 14 (nI s)) a 2 0) a 8 0) a 9 (-1)) a 10 0).1 a 2 = nI 0 := by rw [uI_j (by decide), uI_j (by decide), uI_j (by decide), uI_at]; rfl
  have g8 : (mm_uI (mm_uI (mm_uI (mm_uI (mm_uI (mm_uR (mm_uI (mm_uR M a 0 (some 1)) a 1 (nI T.2)) a 13 (some r)) a 14 (nI s)) a 2 0) a 8 0) a 9 (-1)) a 10 0).1 a 8 = 0 := by rw [uI_j (by decide), uI_j (by decide), uI_at]
  have g9 : (mm_uI (mm_uI (mm_uI (mm_uI (mm_uI (mm_uR (mm_uI (mm_uR M a 0 (some 1)) a 1 (nI T.2)) a 13 (some r)) a 14 (nI s)) a 2 0) a 8 0) a 9 (-1)) a 10 0).1 a 9 = -1 := by rw [uI_j (by decide), uI_at]
  have g10 : (mm_uI (mm_uI (mm_uI (mm_uI (mm_uI (mm_uR (mm_uI (mm_uR M a 0 (some 1)) a 1 (nI T.2)) a 13 (some r)) a 14 (nI s)) a 2 0) a 8 0) a 9 (-1)) a 10 0).1 a 10 = nI 0 := uI_at _ _ _ _
  generalize mm_uI (mm_uI (mm_uI (mm_uI (mm_uI (mm_uR (mm_uI (mm_uR M a 0 (some 1)) a 1 (nI T.2)) a 13 (some r)) a 14 (nI s)) a 2 0) a 8 0) a 9 (-1)) a 10 0 = m1 at o1 r0 r13 ro g1 g14 g2 g8 g9 g10 ⊢
  have hG1 : mm_G m1.2.2 := G_Rd hG o1 (fun c j z => by
    unfold wBg at z
    refine ⟨by omega, fun _ => ?_⟩
    by_cases e : j = 0 ∨ j = 13
    · exact Or.inr e
    · exact Or.inl (ro c j (fun y => e y.2)))
  have hT1 : cTx T a m1 := ⟨g1, hn, r0, fun j hj => by rw [o1.1 _ _ (by unfold wBg; omega)]; exact ht j hj⟩
  refine c_next ha hG1 hT1 (Nat.zero_le _) g2 (fun m2 o2 t2 => hK m2 (offA_tr o1 (offA_of o2 (fun c j z => by unfold wNx at z; unfold wBg; omega))) (by rw [o2.2.2]; exact hG1) ?_)
  exact ⟨cTx_off hT1 o2 (fun c j z => by unfold wNx at z; omega), t2, by rw [o2.1 _ _ (by unfold wNx; omega)]; exact g8, by rw [o2.1 _ _ (by unfold wNx; omega)]; exact g9, by rw [o2.1 _ _ (by unfold wNx; omega)]; exact g10, by rw [o2.2.2]; exact r13, by rw [o2.1 _ _ (by unfold wNx; omega)]; exact g14, fun j c hc => (by cases hc), by rw [o2.1 _ _ (by unfold wNx; omega), o1.1 _ _ (by unfold wBg; omega)]; exact h11, by rw [o2.1 _ _ (by unfold wNx; omega), o1.1 _ _ (by unfold wBg; omega)]; exact h12⟩
