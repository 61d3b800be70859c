/-! ===== the reference: all tastes, for a question ===== -/
def wTa (c j : Nat) : Prop := wA c j ∨ c = 201
theorem m_tastes {d : Nat} {y1 : Int32} {U : dU} {N : dN} {M : mm_M} {K : Int64 → mm_M → Prop} (hG : mm_G M.2.2) (hU : mU U M) (hN : mN N M) (vu : vU U) (vn : vN U N) (hK : ∀ m, offM wTa M m → (∀ i v : Nat, i < U.2.1 → v < U.2.1 → m.2.1 201 (7 * i + v) = (tQ U N i v).toInt64) → jX12_ask_253 (d + 7) (mm_uI m 164 49 3) K y1 0) : jX12_ask_183 (d + 7) M K y1 0 := by
  have hu7 := vu.2.1
  have st : ∀ m, offM wTa M m → mm_G m.2.2 ∧ mU U m ∧ mN N m := fun m o => ⟨by rw [o.2.2]; exact hG, mU_off hU o (fun c j q => by unfold wTa wA at q; omega), mN_off hN o (fun c j q => by unfold wTa wA at q; omega)⟩
  have e7 : ∀ i v, 7 * nI i + nI v = nI (7 * i + v) := fun i v => by
    have : 7 * nI i = nI (7 * i) := pk_mul 7 i
    rw [this, nI_add]
  have outer : ∀ (k i : Nat) (m : mm_M), i + k = U.2.1 → offM wTa M m → (∀ a v : Nat, a < i → v < U.2.1 → m.2.1 201 (7 * a + v) = (tQ U N a v).toInt64) → jX12_ask_183 (d + 7) m K y1 (nI i) := by
    intro k
    induction k with
    | zero =>
      intro i m hi o ht
      obtain ⟨w1, w2, w3⟩ := st m o
      refine lX12_ask_183 w1 (m_houseMany w1 ?_)
      rw [w2.2.1]
      exact ipos (nI_le (by omega) (by omega)) (hK m o (fun a v ha hv => ht a v (by omega) hv))
    | succ k ih =>
      intro i m hi o ht
      obtain ⟨w1, w2, w3⟩ := st m o
      refine lX12_ask_183 w1 (m_houseMany w1 ?_)
      rw [w2.2.1]
      refine ineg (nI_ge (by omega) (by omega)) ?_
      have inner : ∀ (p v : Nat) (m2 : mm_M), v + p = U.2.1 → offM wTa M m2 → (∀ a b : Nat, b < U.2.1 → (a < i ∨ (a = i ∧ b < v)) → m2.2.1 201 (7 * a + b) = (tQ U N a b).toInt64) → jX12_ask_193 (d + 7) m2 K y1 (nI i) (nI v) := by
        intro p
        induction p with
        | zero =>
          intro v m2 hv o2 ht2
          obtain ⟨x1, x2, x3⟩ := st m2 o2
          refine lX12_ask_193 x1 (m_houseMany x1 ?_)
          rw [x2.2.1, nI_1 i]
          exact ipos (nI_le (by omega) (by omega)) (ih (i + 1) m2 (by omega) o2 (fun a b ha hb => ht2 a b hb (by omega)))
        | succ p ihp =>
          intro v m2 hv o2 ht2
          obtain ⟨x1, x2, x3⟩ := st m2 o2
          refine lX12_ask_193 x1 (m_houseMany x1 ?_)
          rw [x2.2.1, e7, nI_clamp (by omega), nI_1 v]
          have put : ∀ (m3 : mm_M) (z : Int64), offM wTa m2 m3 → (∀ j, m3.2.1 201 j = m2.2.1 201 j) → z = (tQ U N i v).toInt64 → jX12_ask_193 (d + 7) (mm_uL m3 201 (7 * i + v) z) K y1 (nI i) (nI (v + 1)) := fun m3 z o3 e3 hz => by
            refine ihp (v + 1) _ (by omega) (offM_tr (offM_tr o2 o3) (offM_uL (Or.inr rfl))) (fun a b hb hab => ?_)
            by_cases e : 7 * a + b = 7 * i + v
            · obtain ⟨rfl, rfl⟩ : a = i ∧ b = v := by omega
              rw [uL_at]; exact hz
            · have : (mm_uL m3 201 (7 * i + v) z).2.1 201 (7 * a + b) = m3.2.1 201 (7 * a + b) := by simp [mm_uL, va_up, vp_updL, e]
              rw [this, e3]
              exact ht2 a b hb (by omega)
          refine ineg (nI_ge (by omega) (by omega)) (m_areEnemies (d := d + 5) (U := U) x1 x3 vn (by omega) (by omega) ?_)
          by_cases c : 0 < N.2.2.2.2 i v
          · rw [if_pos c]
            have hne : v ≠ i := fun z => by
              rw [z, vn.2.2.2.2.2.2.1 i] at c
              exact absurd c (by decide)
            refine ineg (by decide) (m_tasteOf (d := d) x1 x2 x3 vu vn (by omega) (by omega) (by omega) hne (fun m3 o3 => ⟨vp_in_nI (by omega) (by decide), put m3 _ (offM_mono o3 (fun c j z => Or.inl z)) (fun j => o3.2.1 _ _ (by unfold wA; omega)) ?_⟩))
            unfold tQ; rw [if_pos c]
          · rw [if_neg c]
            refine ipos rfl ⟨vp_in_nI (by omega) (by decide), put m2 _ offM_rf (fun _ => rfl) ?_⟩
            unfold tQ; rw [if_neg c]; rfl
      exact inner U.2.1 0 m (by omega) o (fun a b hb hab => ht a b (by omega) hb)
  exact outer U.2.1 0 M (by omega) offM_rf (fun a v ha => by omega)
