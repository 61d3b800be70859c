/-! ===== the reference finds a question's fault ===== -/
section
variable {T : dT} {d : Nat} {M : mm_M}
theorem xC_inj {k p k' p' : Nat} (h : xC k p = xC k' p') : k = k' ∧ p = p' := by
  unfold xC at h
  simp only [Prod.mk.injEq] at h
  omega
theorem m_readX {k p : Nat} {K : Int64 → mm_M → Prop} (hB : ∀ j, inI 0 255 (T.1 j)) (hG : mm_G M.2.2) (h : mQs T 3 (rn T isBl 0) [] [] [] 0 M) (ha : askX T k p) (hK : ∀ z m, offM wQs M m → mXs k p m → jX12_ask_133 (d + 20) m K z) : mm_CI mX12_qKind (d + 20) [.ref 164] M (askG (d + 20) K) := by
  rcases ha with ⟨hno, rfl, rfl⟩ | ⟨kd, hw, hst⟩
  · refine m_kindQ (d := d + 16) hG h (fun kd' hk' hw' => absurd hw' (hno kd' hk')) (fun _ m o x => ?_)
    exact ineg (mXn0 x) (ineg (mXn0 x) (x_109 (by rw [o.2.2]; exact hG) x (hK 5 m (wLx_Q o) x)))
  · have hkd : kd < 6 := by
      rcases hst with ⟨a1, -⟩ | ⟨-, a2, -⟩ <;> omega
    refine m_kindQ (d := d + 16) hG h (fun kd' hk' hw' m o s => ?_) (fun hno => absurd hw (hno kd hkd))
    obtain rfl : kd = kd' := by
      have := (nI_eq (a := 24 + kd) (b := 24 + kd') (by omega) (by omega)).mp (hw.symm.trans hw')
      omega
    have hbad : m.1 164 5 = 0 := by obtain ⟨p, h⟩ := s.1; exact h.2.1
    have hGm : mm_G m.2.2 := by rw [o.2.2]; exact hG
    have fin : ∀ (q' o' : Nat) (C : List Nat) m2, offM wQs m m2 → mQs T 3 q' C [] [] o' m2 → tkk T q' ≠ 0 → k = 1 → p = q' → jX12_ask_109 (d + 20) m2 K (nI kd) := fun q' o' C m2 o2 s2 hz hk hp => by
      subst hk
      subst hp
      exact m_109 hB (by rw [o2.2.2]; exact hGm) s2 (fun z => absurd z hz) (fun _ m3 o3 x3 => hK _ m3 (offM_tr (offM_tr (wLx_Q o) o2) (wLx_Q o3)) x3)
    have finX : ∀ m2, offM wQs m m2 → mXs k p m2 → jX12_ask_109 (d + 20) m2 K (nI kd) := fun m2 o2 x2 => x_109 (by rw [o2.2.2]; exact hGm) x2 (hK _ m2 (offM_tr (wLx_Q o) o2) x2)
    refine ipos hbad ?_
    rcases hst with ⟨a1, a2⟩ | ⟨a1, a2, a3⟩
    · refine ineg (nI_ge (b := 3) a1 (by decide)) ?_
      rcases a2 with a2 | ⟨q', C, a2, hz, hk, hp⟩
      · refine m_qTestP (d := d + 7) hGm s a2 ⟨fun k' p' e m2 o2 x2 => ?_, fun q2 C2 o2 e => (by cases e)⟩ (Or.inl ⟨k, p, rfl⟩)
        obtain ⟨rfl, rfl⟩ := xC_inj e
        exact finX m2 o2 x2
      · refine m_qTestP (d := d + 7) hGm s a2 ⟨fun k' p' e => (by cases e), fun q2 C2 o2 e m2 om s2 hl => ?_⟩ (Or.inr ⟨q', C, 0, rfl⟩)
        simp only [Prod.mk.injEq] at e
        obtain ⟨-, rfl, rfl, -, rfl⟩ := e
        exact fin _ _ _ m2 om s2 hz hk hp
    · refine ipos (nI_le (a := 3) a1 (by omega)) (ipos hbad ?_)
      rcases a3 with a3 | ⟨q', C, a3, hz, hk, hp⟩
      · refine m_qSumsP (e := 0) (d := d + 9) (F := []) (fun x hx => (by cases hx)) hGm s (by show 0 + 0 + 0 ≤ _; omega) (Nat.le_refl _) a3 ⟨fun k' p' e m2 o2 x2 => ?_, fun q2 C2 o2 e => (by cases e)⟩ (Or.inl ⟨k, p, rfl⟩)
        obtain ⟨rfl, rfl⟩ := xC_inj e
        exact finX m2 o2 x2.1
      · refine m_qSumsP (e := 0) (d := d + 9) (F := []) (fun x hx => (by cases hx)) hGm s (by show 0 + 0 + 0 ≤ _; omega) (Nat.le_refl _) a3 ⟨fun k' p' e => (by cases e), fun q2 C2 o2 e m2 om s2 hl _ => ?_⟩ (Or.inr ⟨q', C, 0, rfl⟩)
        simp only [Prod.mk.injEq] at e
        obtain ⟨-, rfl, rfl, -, rfl⟩ := e
        exact fin _ _ _ m2 om s2 hz hk hp
end
