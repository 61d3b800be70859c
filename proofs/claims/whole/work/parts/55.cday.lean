/-! ===== the class's day ===== -/
theorem c_isThere {d a h : Nat} {N : dN} {M : mm_M} {K : Int32 → mm_M → Prop} (ha : a ∈ mm_Sts) (hG : mm_G M.2.2) (h1 : M.1 a 1 = nI N.2.1) (hb : N.2.1 < 128) (hh : h < 7) (hK : K (if N.2.1.testBit h then 1 else 0) M) : mm_CI mX9_isThere d [.ref a, .int (nI h)] M K := by
  refine rX9_isThere ha hG ?_
  rw [if_neg (nI_pos (by omega)), if_neg (lt7 hh), h1]
  by_cases c : N.2.1.testBit h = true
  · rw [if_neg (fun q => by rw [(bit_at _ hb _ hh).mp q] at c; cases c)]
    rw [if_pos c] at hK; exact hK
  · rw [if_pos ((bit_at _ hb _ hh).mpr (by simpa using c))]
    rw [if_neg c] at hK; exact hK
theorem c_bounded {d : Nat} {x : Int32} {M : mm_M} {K : Int32 → mm_M → Prop} (hG : mm_G M.2.2) (hK : K (bnd x.toInt) M) : mm_CI mX1_bounded d [.int x] M K := by
  refine rX1_bounded hG ?_
  have e0 : (0 : Int32).toInt = 0 := rfl
  have e9 : (99 : Int32).toInt = 99 := rfl
  unfold bnd at hK
  by_cases h0 : 0 ≤ x
  · rw [if_pos h0]
    have h0' := i32_le.mp h0
    rw [if_neg (by omega)] at hK
    by_cases h9 : x ≤ 99
    · rw [if_pos h9]
      have h9' := i32_le.mp h9
      rw [if_neg (by omega), Int32.ofInt_toInt] at hK
      exact hK
    · rw [if_neg h9]
      have h9' := mt i32_le.mpr h9
      rw [if_pos (by omega)] at hK
      exact hK
  · rw [if_neg h0]
    have h0' := mt i32_le.mpr h0
    rw [if_pos (by omega)] at hK
    exact hK
theorem SH_Rl {r : Nat} (h : r ∈ mm_Rls) : mm_SH[r + 5]? = some (0, 1608) := by
  rcases Rl_at h with rfl | rfl <;> decide +kernel
/-- what the code of kind w comes to, by the facts that are told -/
theorem c_kind {d r w : Nat} {U : dU} {M : mm_M} {K : Int32 → mm_M → Prop} {F : Nat → Option Int} {al : List Nat} {b : Bool} (hG : mm_G M.2.2) (hU : cU r U M) (hw : w < 5) (hal : ∀ k ∈ al, ∃ v, F k = some v) (ho : okc al b (U.2.2.2 w)) (hF : ∀ k v, F k = some v → k < 24 ∧ (M.1 31 k).toInt = v ∧ okz v) (hK : ∀ (g : Nat → Int32) (x : Int32), x.toInt = val F (U.2.2.2 w) → K x (mm_cI M 34 g)) : mm_CI mX5_value (d + 1) [.ref 30, .ref (r + 5), .int (M.1 (r + 6) w), .int (M.1 (r + 7) w)] M K := by
  obtain ⟨-, h2, -, -, -, h6⟩ := hU
  obtain ⟨f, e, q1, q2, q3, q4, q5⟩ := h6 w hw
  obtain ⟨⟨fl, ev⟩, -, -⟩ := okc_val ho hal (fun k v q => (hF k v q).2.2)
  rw [q1, q2]
  have hr := Rl_at h2
  exact c_value (OF := fun _ _ => none) (SH_Rl h2) (by omega) (by decide) hG hF (fun _ _ _ q => by cases q) q4 q3 q5 ev hK
def wT (c j : Nat) : Prop := c = 31 ∧ (j = 13 ∨ j = 2 ∨ j = 3 ∨ j = 14 ∨ j = 6)
theorem c_tellLoaf {d a r b e : Nat} {U : dU} {N : dN} {M : mm_M} {K : mm_M → Prop} (ha : a ∈ mm_Sts) (hG : mm_G M.2.2) (hU : cU r U M) (hN : cN a N M) (hb : b < 7) (he : e < 7) (hK : ∀ m, offM wT M m → (∀ k v, fL U N b e k = some v → k < 24 ∧ (m.1 31 k).toInt = v) → K m) : mm_CV mX1_tellLoaf d [.ref 21, .ref a, .int (nI b), .int (nI e)] M K := by
  have hs := St_at ha
  obtain ⟨u1, u2, u3, u4, u5, -⟩ := hU
  have hr := Rl_at u2
  obtain ⟨n1, n2, n3, n4, n5⟩ := hN
  refine rX1_tellLoaf ha hG ?_
  rw [if_neg (nI_pos (by omega)), if_neg (lt7 hb), if_neg (nI_pos (by omega)), if_neg (lt7 he), ix8 e (by omega) b (by omega), nI_clamp (by omega), nI_clamp (by omega), nI_clamp (by omega)]
  refine ⟨vp_in_nI hb (by decide), r, u1, u2, vp_in_nI hb (by decide), vp_in_nI he (by decide), vp_in_nI (by omega) (by decide), ?_⟩
  have t13 : (13 : Int32).toNatClampNeg = 13 := rfl
  have t2 : (2 : Int32).toNatClampNeg = 2 := rfl
  have t3 : (3 : Int32).toNatClampNeg = 3 := rfl
  have t14 : (14 : Int32).toNatClampNeg = 14 := rfl
  have t6 : (6 : Int32).toNatClampNeg = 6 := rfl
  rw [t13, t2, t3, t14, t6]
  have o1 : ∀ {m : mm_M} {x : Int32} {k : Nat}, (k = 13 ∨ k = 2 ∨ k = 3 ∨ k = 14 ∨ k = 6) → offM wT m (mm_uI m 31 k x) := fun hk => offM_uI ⟨rfl, hk⟩
  refine hK _ ?_ ?_
  · exact offM_tr (offM_tr (offM_tr (offM_tr (o1 (by omega)) (o1 (by omega))) (o1 (by omega))) (o1 (by omega))) (o1 (by omega))
  · intro k v q
    have z : ∀ (m : mm_M) (k : Nat) (x : Int32) (c j : Nat), c ≠ 31 → (mm_uI m 31 k x).1 c j = m.1 c j := fun m k x c j h => by rw [uI_c h]
    rcases fL_of q with ⟨rfl, rfl⟩ | ⟨rfl, rfl⟩ | ⟨rfl, rfl⟩ | ⟨rfl, rfl⟩ | ⟨rfl, rfl⟩
    · refine ⟨by decide, ?_⟩
      rw [uI_j (by decide), uI_j (by decide), uI_j (by decide), uI_j (by decide), uI_at, n1]
    · refine ⟨by decide, ?_⟩
      rw [uI_j (by decide), uI_j (by decide), uI_j (by decide), uI_at, z _ _ _ _ _ (by omega), n3 b hb]
    · refine ⟨by decide, ?_⟩
      rw [uI_j (by decide), uI_j (by decide), uI_at, z _ _ _ _ _ (by omega), z _ _ _ _ _ (by omega), u5 b hb]
    · refine ⟨by decide, ?_⟩
      rw [uI_j (by decide), uI_at, z _ _ _ _ _ (by omega), z _ _ _ _ _ (by omega), z _ _ _ _ _ (by omega), n4 e he]
    · refine ⟨by decide, ?_⟩
      rw [uI_at, z _ _ _ _ _ (by omega), z _ _ _ _ _ (by omega), z _ _ _ _ _ (by omega), z _ _ _ _ _ (by omega), n5 e b he hb]
theorem c_tellHouse {d a r h : Nat} {U : dU} {N : dN} {M : mm_M} {K : mm_M → Prop} (ha : a ∈ mm_Sts) (hG : mm_G M.2.2) (hU : cU r U M) (hN : cN a N M) (hh : h < 7) (hK : ∀ m, offM wT M m → (∀ k v, fH U N h k = some v → k < 24 ∧ (m.1 31 k).toInt = v) → K m) : mm_CV mX1_tellHouse d [.ref 21, .ref a, .int (nI h)] M K := by
  have hs := St_at ha
  obtain ⟨u1, u2, u3, u4, u5, -⟩ := hU
  have hr := Rl_at u2
  obtain ⟨n1, n2, n3, n4, n5⟩ := hN
  refine rX1_tellHouse ha hG ?_
  rw [if_neg (nI_pos (by omega)), if_neg (lt7 hh), nI_clamp (by omega)]
  refine ⟨vp_in_nI hh (by decide), r, u1, u2, vp_in_nI hh (by decide), vp_in_nI hh (by decide), ?_⟩
  have t13 : (13 : Int32).toNatClampNeg = 13 := rfl
  have t2 : (2 : Int32).toNatClampNeg = 2 := rfl
  have t3 : (3 : Int32).toNatClampNeg = 3 := rfl
  have t14 : (14 : Int32).toNatClampNeg = 14 := rfl
  rw [t13, t2, t3, t14]
  have o1 : ∀ {m : mm_M} {x : Int32} {k : Nat}, (k = 13 ∨ k = 2 ∨ k = 3 ∨ k = 14 ∨ k = 6) → offM wT m (mm_uI m 31 k x) := fun hk => offM_uI ⟨rfl, hk⟩
  refine hK _ ?_ ?_
  · exact offM_tr (offM_tr (offM_tr (o1 (by omega)) (o1 (by omega))) (o1 (by omega))) (o1 (by omega))
  · intro k v q
    have z : ∀ (m : mm_M) (k : Nat) (x : Int32) (c j : Nat), c ≠ 31 → (mm_uI m 31 k x).1 c j = m.1 c j := fun m k x c j h => by rw [uI_c h]
    rcases fH_of q with ⟨rfl, rfl⟩ | ⟨rfl, rfl⟩ | ⟨rfl, rfl⟩ | ⟨rfl, rfl⟩
    · refine ⟨by decide, ?_⟩
      rw [uI_j (by decide), uI_j (by decide), uI_j (by decide), uI_at, n1]
    · refine ⟨by decide, ?_⟩
      rw [uI_j (by decide), uI_j (by decide), uI_at, z _ _ _ _ _ (by omega), n3 h hh]
    · refine ⟨by decide, ?_⟩
      rw [uI_j (by decide), uI_at, z _ _ _ _ _ (by omega), z _ _ _ _ _ (by omega), u5 h hh]
    · refine ⟨by decide, ?_⟩
      rw [uI_at, z _ _ _ _ _ (by omega), z _ _ _ _ _ (by omega), z _ _ _ _ _ (by omega), n4 h hh]
/-- a loaf's code of kind w (bakes, tastes) at a baker and an eater -/
theorem c_loafKind {d a r b e w : Nat} {U : dU} {N : dN} {M : mm_M} {K : Int32 → mm_M → Prop} (ha : a ∈ mm_Sts) (hG : mm_G M.2.2) (hU : cU r U M) (hN : cN a N M) (vu : vU U) (vn : vN U N) (hb : b < 7) (he : e < 7) (hw : w = 0 ∨ w = 1) (hK : ∀ m (x : Int32), offM wM M m → x.toInt = val (fL U N b e) (U.2.2.2 w) → K x m) : mm_CV mX1_tellLoaf (d + 1) [.ref 21, .ref a, .int (nI b), .int (nI e)] M (fun m => ∃ q12 : Nat, m.2.2 21 0 = some q12 ∧ q12 ∈ mm_Rls ∧ ∃ q19 : Nat, m.2.2 21 0 = some q19 ∧ q19 ∈ mm_Rls ∧ ∃ q28 : Nat, m.2.2 21 0 = some q28 ∧ q28 ∈ mm_Rls ∧ mm_CI mX5_value (d + 1) [.ref 30, .ref (q12 + 5), .int (m.1 (q19 + 6) w), .int (m.1 (q28 + 7) w)] m K) := by
  refine c_tellLoaf ha hG hU hN hb he (fun m ho hf => ?_)
  have hU' : cU r U m := cU_off hU ho (fun c j q => by unfold wT at q; omega)
  refine ⟨r, hU'.1, hU'.2.1, r, hU'.1, hU'.2.1, r, hU'.1, hU'.2.1, ?_⟩
  have hoc : okc alL false (U.2.2.2 w) := by
    obtain ⟨-, -, -, v0, v1, -⟩ := vu
    rcases hw with rfl | rfl
    · exact v0
    · exact v1
  refine c_kind (al := alL) (by rw [ho.2.2]; exact hG) hU' (by omega) fL_all hoc (fun k v q => ⟨(hf k v q).1, (hf k v q).2, fL_ok vu vn k v q⟩) (fun g x hx => hK _ x ?_ hx)
  exact offM_tr (offM_mono ho (fun c j q => by unfold wT at q; unfold wM; omega)) (offM_cI (fun j => Or.inr rfl))
theorem c_tasteOfLoaf {d a r b e : Nat} {U : dU} {N : dN} {M : mm_M} {K : Int32 → mm_M → Prop} (ha : a ∈ mm_Sts) (hG : mm_G M.2.2) (hU : cU r U M) (hN : cN a N M) (vu : vU U) (vn : vN U N) (hb : b < 7) (he : e < 7) (hK : ∀ m, offM wM M m → K (tasteA U N b e) m) : mm_CI mX1_tasteOfLoaf (d + 2) [.ref 21, .ref a, .int (nI b), .int (nI e)] M K := by
  refine rX1_tasteOfLoaf ha hG ?_
  refine c_loafKind (w := 1) ha hG hU hN vu vn hb he (Or.inr rfl) (fun m x ho hx => ?_)
  refine c_bounded (by rw [ho.2.2]; exact hG) ?_
  rw [hx]
  exact hK m ho
