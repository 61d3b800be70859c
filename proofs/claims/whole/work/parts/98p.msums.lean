/-! ===== the reference reads a sum ===== -/
section
variable {T : dT} {tk q o d e : Nat} {C S B : List Nat} {M : mm_M} {K : mm_M → Prop} {y : Int32}
theorem m_follow (hB : ∀ x, B.head? = some x → 10 ≤ x) : ∀ (n : Nat) (c c' : sC) (m : mm_M), itr T tk n c = c' → (c'.1 = 3 ∨ c'.1 = 9) → mm_G m.2.2 → mRl T tk e B c m → (∀ m', offM wQs m m' → mRl T tk e B c' m' → K (mm_uI m' 164 109 y)) → mSm d K y c.1 m := by
  intro n
  induction n with
  | zero =>
    intro c c' m hi hc' hG hr hK
    have hi : c = c' := hi
    subst hi
    have := hK m offM_rf hr
    unfold mSm
    rcases hc' with z | z
    · rw [z, if_neg (by decide), if_neg (by decide), if_neg (by decide)]; exact this
    · rw [z, if_neg (by decide), if_neg (by decide), if_neg (by decide)]; exact this
  | succ n ih =>
    intro c c' m hi hc' hG hr hK
    have hi : itr T tk n (stp T tk c) = c' := hi
    have nx : ∀ m', offM wQs m m' → mRl T tk e B (stp T tk c) m' → mSm d K y (stp T tk c).1 m' := fun m' o' r' => ih _ c' m' hi hc' (by rw [o'.2.2]; exact hG) r' (fun m2 o2 r2 => hK m2 (offM_tr o' o2) r2)
    obtain ⟨ctl, q, C, S, o⟩ := c
    by_cases c0 : ctl = 0
    · subst c0
      obtain ⟨h1, h2, h3⟩ := (show mQs T tk q C S B o m ∧ C.length + (S ++ B).length + e ≤ q ∧ cnt (S ++ B) ≤ o from hr)
      exact m_stepA hG h1 h2 h3 nx
    by_cases c1 : ctl = 1
    · subst c1
      obtain ⟨h1, h2, h3⟩ := (show mQs T tk q C S B o m ∧ C.length + (S ++ B).length + e ≤ q ∧ cnt (S ++ B) ≤ o from hr)
      exact m_stepE hG h1 h2 h3 nx
    by_cases c2 : ctl = 2
    · subst c2
      obtain ⟨h1, h2, h3⟩ := (show mQs T tk q C S B o m ∧ C.length + (S ++ B).length + e ≤ q ∧ cnt (S ++ B) ≤ o from hr)
      exact m_stepG hB hG h1 h2 h3 nx
    have es : stp T tk (ctl, q, C, S, o) = (ctl, q, C, S, o) := by
      unfold stp
      rw [if_neg c0, if_neg c1, if_neg c2]
    rw [es] at nx
    exact nx m offM_rf hr
theorem mQs_base {S' B' : List Nat} (h : mQs T tk q C S B o M) (hs : S' ++ B' = S ++ B) : mQs T tk q C S' B' o (mm_uI M 164 109 (nI B'.length)) := by
  obtain ⟨h1, h2, h3, h4, h5, h6, h7, h8, h9, h10, h11, h12⟩ := h
  have o' : offM (fun c j => c = 164 ∧ j = 109) M (mm_uI M 164 109 (nI B'.length)) := offM_uI ⟨rfl, rfl⟩
  exact ⟨mLx_off h1 o' (fun c j z => by omega), by rw [o'.1 _ _ (by omega)]; exact h2, fun j c hc => by rw [o'.1 _ _ (by omega)]; exact h3 j c hc, by rw [o'.1 _ _ (by omega), hs]; exact h4, by rw [hs]; exact h5, uI_at _ _ _ _, by rw [o'.1 _ _ (by omega)]; exact h7, by rw [o'.1 _ _ (by omega)]; exact h8, h9, h10, mWd_off h11 (offA_M o') (fun c j z => by omega), by rw [hs]; exact h12⟩
/-- a sum, above what waits in a test -/
theorem m_qSumsP {F : List Nat} {c' : sC} (hF : ∀ x, F.head? = some x → 10 ≤ x) (hG : mm_G M.2.2) (h : mQs T tk q C F [] o M) (hb : C.length + F.length + e ≤ q) (hc : cnt F ≤ o) (hst : str T tk (0, q, C, [], o) c') (hk : (∀ k p, c' = xC k p → ∀ m, offM wQs M m → xOk k p m → K m) ∧ (∀ q' C' o', c' = (3, q', C', [], o') → ∀ m, offM wQs M m → mQs T tk q' C' F [] o' m → C'.length + F.length + e ≤ q' → cnt F ≤ o' → K m)) (hc' : (∃ k p, c' = xC k p) ∨ ∃ q' C' o', c' = (3, q', C', [], o')) : mm_CV mX12_qSums (d + 11) [.ref 164] M K := by
  have h0 : M.1 164 109 = nI 0 := h.2.2.2.2.2.1
  have hF0 : (F ++ []).length = F.length := by rw [List.append_nil]
  refine rX12_qSums hG ?_
  rw [h0, h.2.2.2.1, hF0]
  have s1 : mQs T tk q C [] F o (mm_uI M 164 109 (nI F.length)) := mQs_base h (by rw [List.append_nil]; rfl)
  have o1 : offM wQs M (mm_uI M 164 109 (nI F.length)) := offM_uI (by unfold wQs; omega)
  have hG1 : mm_G (mm_uI M 164 109 (nI F.length)).2.2 := by rw [o1.2.2]; exact hG
  have hbad : (mm_uI M 164 109 (nI F.length)).1 164 5 = 0 := by obtain ⟨p, z⟩ := s1.1; exact z.2.1
  generalize mm_uI M 164 109 (nI F.length) = m1 at s1 o1 hG1 hbad ⊢
  obtain ⟨n, hn⟩ := hst
  have main : mSm d K (nI 0) 0 m1 := by
    refine m_follow (T := T) (tk := tk) (e := e) (B := F) hF n (0, q, C, [], o) c' m1 hn ?_ hG1 ⟨s1, hb, hc⟩ (fun m' o' r' => ?_)
    · rcases hc' with ⟨k, p, rfl⟩ | ⟨q', C', o', rfl⟩
      · exact Or.inr rfl
      · exact Or.inl rfl
    · have o2 : offM wQs M (mm_uI m' 164 109 (nI 0)) := offM_tr (offM_tr o1 o') (offM_uI (by unfold wQs; omega))
      rcases hc' with ⟨k, p, rfl⟩ | ⟨q', C', o'', rfl⟩
      · have r' : xOk k p m' := r'
        obtain ⟨x1, n1, x2, x3⟩ := r'
        exact hk.1 k p rfl _ o2 ⟨mXs_off x1 (offM_uI (W := fun c j => c = 164 ∧ j = 109) ⟨rfl, rfl⟩) (fun c j z => by omega), n1, x2, by rw [uI_j (by decide)]; exact x3⟩
      · obtain ⟨r1, r2, r3⟩ := (show mQs T tk q' C' [] F o'' m' ∧ C'.length + F.length + e ≤ q' ∧ cnt F ≤ o'' from r')
        exact hk.2 q' C' o'' rfl _ o2 (mQs_base (S' := F) (B' := []) r1 (by rw [List.append_nil]; rfl)) r2 r3
  exact lX12_qSums_15 hG1 (ineg (by decide) (ipos hbad (rX12_qPartTold hG1 main)))
end
