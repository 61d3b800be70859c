/-! ===== the class tells the machine what a question asks about a house ===== -/
def fQ (U : dU) (N : dN) (h : Nat) : Nat → Option Int := fun k => if k = 16 then some (h : Int) else if k = 17 then some (cntE N h : Int) else fH U N h k
def tQ (U : dU) (N : dN) (h b : Nat) : Int32 := if 0 < N.2.2.2.2 h b then tasteA U N b h else -1
def ofQ (U : dU) (N : dN) (h : Nat) : Int → Int → Option Int := fun t a => if t = -13 then some (if 0 ≤ a ∧ a < 7 then (N.2.2.2.2 h a.toNat).toInt else 0) else if t = -14 then some (if 0 ≤ a ∧ a < 7 then (tQ U N h a.toNat).toInt else -1) else none
def wTq (c _j : Nat) : Prop := c = 31 ∨ c = 32 ∨ c = 33 ∨ c = 34
theorem c_tellAll {d r h : Nat} {U : dU} {N : dN} {M : mm_M} {K : mm_M → Prop} (hG : mm_G M.2.2) (hU : cU r U M) (hN : cN 37 N M) (vu : vU U) (vn : vN U N) (hh : h < 7) (hK : ∀ m, offM wTq M m → (∀ k v, fQ U N h k = some v → k < 24 ∧ (m.1 31 k).toInt = v) → (∀ j, j < 7 → m.1 32 j = N.2.2.2.2 h j ∧ m.1 33 j = tQ U N h j) → K m) : mm_CV mX0_tellAll (d + 4) [.ref 21, .ref 37, .int (nI h)] M K := by
  have hr := Rl_at hU.2.1
  have hw : ∀ c j, wM c j → c = 31 ∨ c = 34 := fun c j z => z
  have hw2 : ∀ c j, wT c j → c = 31 := fun c j z => z.1
  have st : ∀ m, offM wTq M m → mm_G m.2.2 ∧ cU r U m ∧ cN 37 N m := fun m o => ⟨by rw [o.2.2]; exact hG, cU_off hU o (fun c j q => by unfold wTq at q; omega), cN_off hN o (fun c j q => by unfold wTq at q; omega)⟩
  refine rX0_tellAll st37 hG ?_
  have e8 : ∀ j, 8 * nI h + nI j = nI (8 * h + j) := fun j => by
    have : 8 * nI h = nI (8 * h) := pk_mul 8 h
    rw [this, nI_add]
  have loop : ∀ (k j : Nat) (m : mm_M), j + k = 7 → offM wTq M m → (∀ i, i < j → m.1 32 i = N.2.2.2.2 h i ∧ m.1 33 i = tQ U N h i) → jX0_tellAll_8 (d + 3) 37 (nI h) m K (nI h) (nI j) := by
    intro k
    induction k with
    | zero =>
      intro j m hj o hi
      obtain rfl : j = 7 := by omega
      obtain ⟨w1, w2, w3⟩ := st m o
      refine lX0_tellAll_8 st37 w1 (ipos (by decide) (lX0_tellAll_78 st37 w1 (c_tellHouse st37 w1 w2 w3 hh (fun m2 o2 f2 => ?_))))
      have o2' : offM wTq m m2 := offM_mono o2 (fun c j z => by have := hw2 c j z; unfold wTq; omega)
      have s16 : (16 : Int32).toNatClampNeg = 16 := rfl
      have s17 : (17 : Int32).toNatClampNeg = 17 := rfl
      rw [s16, s17]
      have o3 : offM wTq M (mm_uI m2 31 16 (nI h)) := offM_tr (offM_tr o o2') (offM_uI (by unfold wTq; omega))
      obtain ⟨y1, y2, y3⟩ := st _ o3
      refine c_countEnemies st37 y1 y3 hh (hK _ (offM_tr o3 (offM_uI (by unfold wTq; omega))) (fun k v hv => ?_) (fun i hi7 => ?_))
      · have hc7 : cntE N h ≤ 7 := by
          have : ∀ k, en N h k ≤ 1 := fun k => by
            unfold en
            split <;> omega
          have := this 0
          have := ‹∀ k, en N h k ≤ 1› 1
          have := ‹∀ k, en N h k ≤ 1› 2
          have := ‹∀ k, en N h k ≤ 1› 3
          have := ‹∀ k, en N h k ≤ 1› 4
          have := ‹∀ k, en N h k ≤ 1› 5
          have := ‹∀ k, en N h k ≤ 1› 6
          unfold cntE
          omega
        unfold fQ at hv
        by_cases k16 : k = 16
        · rw [if_pos k16] at hv
          subst k16
          rw [uI_j (by decide), uI_at, nI_toInt (by omega)]
          exact ⟨by omega, Option.some.inj hv⟩
        · rw [if_neg k16] at hv
          by_cases k17 : k = 17
          · rw [if_pos k17] at hv
            subst k17
            rw [uI_at, nI_toInt (by omega)]
            exact ⟨by omega, Option.some.inj hv⟩
          · rw [if_neg k17] at hv
            rw [uI_j k17, uI_j k16]
            exact f2 k v hv
      · have e32 : ∀ c, c = 32 ∨ c = 33 → (mm_uI (mm_uI m2 31 16 (nI h)) 31 17 (nI (cntE N h))).1 c i = m.1 c i := fun c hc => by
          rw [uI_c (by omega), uI_c (by omega), o2.1 _ _ (fun z => by have := hw2 _ _ z; omega)]
        rw [e32 32 (Or.inl rfl), e32 33 (Or.inr rfl)]
        exact hi i hi7
    | succ k ih =>
      intro j m hj o hi
      obtain ⟨w1, w2, w3⟩ := st m o
      refine lX0_tellAll_8 st37 w1 (ineg (nI_ge (b := 7) (by omega) (by decide)) (ineg (nI_pos (by omega)) (ineg (nI_ge (b := 7) (by omega) (by decide)) ?_)))
      rw [e8, nI_clamp (n := 8 * h + j) (by omega), nI_clamp (n := j) (by omega), nI_1 j]
      have hj7 : j < 7 := by omega
      have eh : m.1 (37 + 3) (8 * h + j) = N.2.2.2.2 h j := w3.2.2.2.2 h j hh hj7
      rw [eh]
      refine ⟨vp_in_nI (by omega) (by decide), vp_in_nI hj7 (by decide), ite_go (fun c => ⟨vp_in_nI hj7 (by decide), ?_⟩) (fun c => ?_)⟩
      · refine ih (j + 1) _ (by omega) (offM_tr o (offM_tr (offM_uI (by unfold wTq; omega)) (offM_uI (by unfold wTq; omega)))) (fun i hij => ?_)
        have et : tQ U N h j = -1 := by
          unfold tQ
          rw [if_neg (fun z => by have := i32_lt.mp z; have := i32_le.mp c; omega)]
        by_cases e : i = j
        · subst e
          exact ⟨by rw [uI_c (by decide), uI_at], by rw [uI_at, et]⟩
        · rw [uI_c (c := 32) (by decide), uI_j e, uI_j e, uI_c (c := 33) (by decide)]
          exact hi i (by omega)
      · have o1 : offM wTq M (mm_uI m 32 j (N.2.2.2.2 h j)) := offM_tr o (offM_uI (by unfold wTq; omega))
        obtain ⟨y1, y2, y3⟩ := st _ o1
        refine c_tasteOfLoaf (d := d + 1) st37 y1 y2 y3 vu vn hj7 hh (fun m2 o2 => ⟨vp_in_nI hj7 (by decide), ?_⟩)
        have o2' : offM wTq M m2 := offM_tr o1 (offM_mono o2 (fun c j z => by have := hw c j z; unfold wTq; omega))
        refine ih (j + 1) _ (by omega) (offM_tr o2' (offM_uI (by unfold wTq; omega))) (fun i hij => ?_)
        have et : tQ U N h j = tasteA U N j h := by
          unfold tQ
          rw [if_pos (by
            have := mt i32_le.mpr c
            exact i32_lt.mpr (by show (0 : Int32).toInt < _; omega))]
        have g : ∀ c i, c = 32 ∨ c = 33 → m2.1 c i = (mm_uI m 32 j (N.2.2.2.2 h j)).1 c i := fun c i hc => o2.1 _ _ (fun z => by have := hw _ _ z; omega)
        by_cases e : i = j
        · subst e
          exact ⟨by rw [uI_c (by decide), g 32 _ (Or.inl rfl), uI_at], by rw [uI_at, et]⟩
        · rw [uI_c (c := 32) (by decide), uI_j e, g 32 _ (Or.inl rfl), g 33 _ (Or.inr rfl), uI_j e, uI_c (c := 33) (by decide)]
          exact hi i (by omega)
  exact loop 7 0 M (by omega) offM_rf (fun i hi => by omega)
