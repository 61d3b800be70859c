/-! ===== the beginning ===== -/
set_option maxRecDepth 100000 in
theorem z0_1 (j : Nat) : mm_M0.1 1 j = 0 := rfl
set_option maxRecDepth 100000 in
theorem z0_2 (j : Nat) : mm_M0.1 2 j = 0 := rfl
set_option maxRecDepth 100000 in
theorem z0_25 (j : Nat) : mm_M0.1 25 j = 0 := rfl
set_option maxRecDepth 100000 in
theorem z0_37 (j : Nat) : mm_M0.1 37 j = 0 := rfl
set_option maxRecDepth 100000 in
theorem z0_38 (j : Nat) : mm_M0.1 38 j = 0 := rfl
set_option maxRecDepth 100000 in
theorem z0_39 (j : Nat) : mm_M0.1 39 j = 0 := rfl
set_option maxRecDepth 100000 in
theorem z0_40 (j : Nat) : mm_M0.1 40 j = 0 := rfl
set_option maxRecDepth 100000 in
theorem z0_47 (j : Nat) : mm_M0.1 47 j = 0 := rfl
set_option maxRecDepth 100000 in
theorem z0_165 (j : Nat) : mm_M0.1 165 j = 0 := rfl
set_option maxRecDepth 100000 in
theorem z0_166 (j : Nat) : mm_M0.1 166 j = 0 := rfl
set_option maxRecDepth 100000 in
theorem z0_191 (j : Nat) : mm_M0.1 191 j = 0 := rfl
set_option maxRecDepth 100000 in
theorem z0_199 (j : Nat) : mm_M0.1 199 j = 0 := rfl
set_option maxRecDepth 100000 in
theorem y0_0_1 : mm_M0.1 0 1 = 0 := by decide +kernel
set_option maxRecDepth 100000 in
theorem y0_0_3 : mm_M0.1 0 3 = 0 := by decide +kernel
set_option maxRecDepth 100000 in
theorem y0_0_4 : mm_M0.1 0 4 = -1 := by decide +kernel
set_option maxRecDepth 100000 in
theorem y0_0_5 : mm_M0.1 0 5 = 1 := by decide +kernel
set_option maxRecDepth 100000 in
theorem y0_0_7 : mm_M0.1 0 7 = 0 := by decide +kernel
set_option maxRecDepth 100000 in
theorem y0_0_18 : mm_M0.1 0 18 = 0 := by decide +kernel
set_option maxRecDepth 100000 in
theorem y0_5_12 : mm_M0.1 5 12 = 0 := by decide +kernel
set_option maxRecDepth 100000 in
theorem y0_22_0 : mm_M0.1 22 0 = 0 := by decide +kernel
set_option maxRecDepth 100000 in
theorem y0_22_1 : mm_M0.1 22 1 = 0 := by decide +kernel
set_option maxRecDepth 100000 in
theorem y0_22_2 : mm_M0.1 22 2 = 0 := by decide +kernel
set_option maxRecDepth 100000 in
theorem y0_22_3 : mm_M0.1 22 3 = 0 := by decide +kernel
set_option maxRecDepth 100000 in
theorem y0_159_0 : mm_M0.1 159 0 = 0 := by decide +kernel
set_option maxRecDepth 100000 in
theorem y0_149_5 : mm_M0.1 149 5 = -1 := by decide +kernel
set_option maxRecDepth 100000 in
theorem y0_149_6 : mm_M0.1 149 6 = -1 := by decide +kernel
set_option maxRecDepth 100000 in
theorem y0_156_3 : mm_M0.1 156 3 = -1 := by decide +kernel
set_option maxRecDepth 100000 in
theorem y0_159_11 : mm_M0.1 159 11 = -1 := by decide +kernel
set_option maxRecDepth 100000 in
theorem y0_159_13 : mm_M0.1 159 13 = -1 := by decide +kernel
set_option maxRecDepth 100000 in
theorem y0_164_1 : mm_M0.1 164 1 = 0 := by decide +kernel
set_option maxRecDepth 100000 in
theorem y0_164_7 : mm_M0.1 164 7 = 0 := by decide +kernel
set_option maxRecDepth 100000 in
theorem y0_164_8 : mm_M0.1 164 8 = -1 := by decide +kernel
set_option maxRecDepth 100000 in
theorem y0_164_115 : mm_M0.1 164 115 = 0 := by decide +kernel
set_option maxRecDepth 100000 in
theorem y0_164_48 : mm_M0.1 164 48 = 0 := by decide +kernel
set_option maxRecDepth 100000 in
theorem y0_164_38 : mm_M0.1 164 38 = 0 := by decide +kernel
set_option maxRecDepth 100000 in
theorem y0_164_79 : mm_M0.1 164 79 = 0 := by decide +kernel
set_option maxRecDepth 100000 in
theorem y0_164_80 : mm_M0.1 164 80 = 0 := by decide +kernel
set_option maxRecDepth 100000 in
theorem y0_164_72 : mm_M0.1 164 72 = 0 := by decide +kernel
set_option maxRecDepth 100000 in
theorem y0_164_57 : mm_M0.1 164 57 = 0 := by decide +kernel
set_option maxRecDepth 100000 in
theorem y0_164_59 : mm_M0.1 164 59 = 0 := by decide +kernel
set_option maxRecDepth 100000 in
theorem y0_164_66 : mm_M0.1 164 66 = 0 := by decide +kernel
set_option maxRecDepth 100000 in
theorem y0_seed : mm_M0.2.1 164 81 = lN 1 := by decide +kernel
set_option maxRecDepth 100000 in
theorem x0_0_11 : mm_M0.2.2 0 11 = some 22 := by decide +kernel
set_option maxRecDepth 100000 in
theorem x0_21_0 : mm_M0.2.2 21 0 = some 22 := by decide +kernel
set_option maxRecDepth 100000 in
theorem x0_4_1 : mm_M0.2.2 4 1 = some 8 := by decide +kernel
set_option maxRecDepth 100000 in
theorem y0_196 : ∀ k, k < 5 → mm_M0.1 196 (5 + k) = -1 := by decide +kernel
set_option maxRecDepth 100000 in
theorem w0_1 : ∀ i, i < 24 → ∀ j, j < (wds.getD i []).length → mm_M0.1 (167 + i) j = (wds.getD i []).getD j 0 := by decide +kernel
set_option maxRecDepth 100000 in
theorem w0_2 : ∀ i, i < 22 → ∀ j, j < (wds.getD (wq.getD i 0) []).length → mm_M0.1 (217 + i) j = (wds.getD (wq.getD i 0) []).getD j 0 := by decide +kernel
theorem mWd_0 : mWd mm_M0 := by
  refine ⟨fun i hi j x hx => ?_, fun i hi j x hx => ?_⟩
  · rw [w0_1 i hi j (List.getElem?_eq_some_iff.mp hx).1, List.getD_eq_getElem?_getD, hx]; rfl
  · rw [w0_2 i hi j (List.getElem?_eq_some_iff.mp hx).1, List.getD_eq_getElem?_getD, hx]; rfl
def U00 : dU := (0, 0, fun _ => 0, dfl)
def N00 : dN := (0, 0, fun _ => 0, fun _ => 0, fun _ _ => 0)
def A00 : dA := ((fun _ => 0, 0, fun _ => 0, 0, -1, 1, fun _ => 0, 0), (false, U00, fun _ _ => 0, 0, 22), (N00, [], []), (0, fun _ => 0), 0)
theorem i00 {b : Int} (hb : 0 ≤ b) : inI 0 b (0 : Int32) := ⟨by decide, hb⟩
theorem vU_00 : vU U00 := by
  have h : ∀ k, k < 5 → okc (alt (tkOf k)) (decide (k = 2)) (dfl k) := fun k hk => by
    obtain ⟨C, e, h'⟩ := evp_dfl k hk
    rw [← e]
    exact okc_evp h' (tkOf_lt k)
  exact ⟨i00 (by decide), by decide, fun _ => i00 (by decide), h 0 (by decide), h 1 (by decide), h 2 (by decide), h 3 (by decide), h 4 (by decide)⟩
theorem vN_00 : vN U00 N00 := ⟨i00 (by decide), by decide, fun _ => i00 (by decide), fun _ => i00 (by decide), fun _ _ => i00 (by decide), fun _ _ => rfl, fun _ => rfl, fun h k z => absurd (show (0 : Int32) < 0 from z) (by decide)⟩
theorem VV_00 : VV 0 A00 := ⟨⟨Nat.zero_le _, fun _ => i00 (by decide), by decide, Nat.zero_le _⟩, ⟨vU_00, Nat.zero_le _, fun _ => rfl, fun z => (by cases z)⟩, ⟨⟨vN_00, i00 (by decide), fun q hq => (by cases hq)⟩, fun q hq => (by cases hq)⟩, ⟨Nat.zero_le _, fun k hk => absurd (show k < 0 from hk) (by omega)⟩, Nat.le_refl _⟩
theorem CC_00 : CC 0 A00 mm_M0 := by
  have no : ∀ x : Int32, x = -1 → nofut 0 x := fun x hx k _ k2 z => nI_nm1 (b := k) k2 (by rw [← z]; exact hx)
  have nn : ∀ x : Int32, x = -1 → x = nI 0 → False := fun x hx z => nI_nm1 (b := 0) (by decide) (by rw [← z]; exact hx)
  refine ⟨⟨fun j _ => z0_1 j, y0_0_1, fun j _ => z0_2 j, y0_0_3, y0_0_4, y0_0_5, fun j hj => absurd (show j < 0 from hj) (by omega), y0_0_7⟩, ⟨x0_0_11, x0_21_0, x0_4_1, by decide, ⟨0, by decide, y0_22_0, ⟨fun z => absurd z (by decide), fun z => (by cases z)⟩⟩, y0_22_1, y0_22_2, y0_22_3, fun h k hh => absurd (show h < 0 from hh) (by omega), fun h _ => z0_25 h, fun z => (by cases z)⟩, ⟨⟨z0_37 0, z0_37 1, fun h _ => z0_38 h, fun h _ => z0_39 h, fun h k _ _ => z0_40 _⟩, ⟨0, z0_37 2, Nat.le_refl _, rfl, fun k q hq => (by cases hq)⟩, Nat.zero_le _, z0_47 2, 0, by decide, z0_47 1, fun k s hs => (by cases hs)⟩, ⟨y0_159_0, fun j hj => absurd (show j < 3 * 0 from hj) (by omega)⟩, y0_0_18, ⟨no _ y0_149_5, no _ y0_149_6, no _ y0_156_3, no _ y0_159_11, no _ y0_159_13⟩, fun z => (nn _ y0_149_5 z).elim, fun z => (nn _ y0_149_6 z).elim, fun n _ _ z _ => (nn _ y0_156_3 z).elim, fun h _ z _ => (nn _ y0_159_11 z).elim, fun h _ z _ => (nn _ y0_159_13 z).elim⟩
theorem MM_00 : MM A00 mm_M0 := by
  refine ⟨⟨fun j _ => z0_165 j, y0_164_1, fun j _ => z0_166 j, y0_164_7, y0_164_8, y0_seed, fun j hj => absurd (show j < 0 from hj) (by omega), y0_164_115⟩, ⟨y0_164_48, ⟨z0_191 2, y0_164_38, fun h hh => absurd (show h < 0 from hh) (by omega), fun k hk => Or.inl ⟨y0_196 k hk, rfl⟩⟩, z0_191 3, fun h hh => absurd (show h < 0 from hh) (by omega)⟩, ⟨⟨z0_199 0, fun h _ => ?_, fun h _ => z0_199 _, fun h _ => z0_199 _, fun a b _ _ _ => z0_199 _⟩, ⟨z0_199 43, by decide, fun k q hq => (by cases hq)⟩, y0_164_79, 0, by decide, y0_164_80, fun k s hs => (by cases hs)⟩, ⟨y0_164_72, fun j hj => absurd (show j < 3 * 0 from hj) (by omega)⟩, y0_164_57, y0_164_59, y0_164_66⟩
  rw [z0_199]
  show (0 : Int32) = (if (0 : Nat).testBit h then (1 : Int32) else 0)
  rw [Nat.zero_testBit]
  rfl
theorem Inv_0 : Inv 0 mm_M0 := ⟨⟨A00, VV_00, CC_00, MM_00⟩, y0_5_12, mWd_0⟩
