/-! System.arraycopy of ints -/
def mm_cp (M : mm_M) (a0 a1 sp dp n : Nat) : mm_M := (va_up M.1 a1 (va_cpy (M.1 a0) (M.1 a1) sp dp n), M.2.1, M.2.2)
theorem mm_copy {y : mm_Y} {d mc ms pc idx : Nat} {lv : List (Nat × Value)} {st : List Value} {sh : mm_S} {M : mm_M} {k n : Nat} {Q : Option Value → mm_S → mm_M → Prop} {a0 a1 n0 n1 : Nat} {sp dp x : Int32} (hd : decode y.2.1 pc = .ok (.invokestatic idx, 3)) (hlk : Cond.methodLink y.1.cls idx arraycopyName ∈ mm_ws) (hnat : Cond.native arraycopyName ∈ mm_ws) (hstat : Cond.static arraycopyName ∈ mm_ws) (hini : Cond.initialized "java/lang/System" ∈ mm_ws) (hs0 : sh[a0]? = some (0, n0)) (hs1 : sh[a1]? = some (0, n1)) (h1 : ¬ sp < 0) (h2 : ¬ dp < 0) (h3 : ¬ x < 0) (h4 : sp.toNatClampNeg + x.toNatClampNeg ≤ n0) (h5 : dp.toNatClampNeg + x.toNatClampNeg ≤ n1) (hw : (st.map fun v => v.category).sum ≤ 8)
    (kk : mm_W y (d + 1) mc ms (pc + 3) lv st sh (mm_cp M a0 a1 sp.toNatClampNeg dp.toNatClampNeg x.toNatClampNeg) k n Q) : mm_W y (d + 1) mc ms pc lv (.int x :: .int dp :: .ref a1 :: .int sp :: .ref a0 :: st) sh M k n Q := by
  intro b aT D p l e s m args below meth c H locs ls X hP hz hS hl
  have nn : ∀ z : Int32, ¬ z < 0 → z.toInt = (z.toNatClampNeg : Int) := by
    intro z hz
    have hz0 : (0 : Int) ≤ z.toInt := by
      have := Int32.not_lt.mp hz
      simpa using Int32.le_iff_toInt_le.mp this
    show z.toInt = ((z.toInt.toNat : Nat) : Int)
    omega
  have hts := X.2.2.2.2.1
  have hK := X.2.2.2.2.2.2.2.2.1.1
  have ha0 : (mm_w b aT sh M)[a0]? = some (b + a0, .inl (aT 0, n0, .inl (M.1 a0))) := mm_w_at hs0
  have ha1 : (mm_w b aT sh M)[a1]? = some (b + a1, .inl (aT 0, n1, .inl (M.1 a1))) := mm_w_at hs1
  intro T hT XX
  have hc0 : H[b + a0]? = some (vp_cell (aT 0) (n0, .inl (M.1 a0))) := hP a0 _ ha0
  have hc1 : H[b + a1]? = some (vp_cell (aT 0) (n1, .inl (M.1 a1))) := hP a1 _ ha1
  obtain ⟨-, k0, hk0, cm0, hkk0⟩ := (hK.2 0 _ rfl).1 n0 (fun j => .int (M.1 a0 j))
  obtain ⟨-, k1, hk1, cm1, hkk1⟩ := (hK.2 0 _ rfl).1 n1 (fun j => .int (M.1 a1 j))
  have hfw : nativeFrameWords "java/lang/System" "arraycopy" 5 ≤ 40 := by decide
  obtain ⟨vm', X', step⟩ := XX.arraycopy X.1 X.2.2.2.1 (hts _ hlk) (hts _ hnat) (hts _ hstat) (hts _ hini) (src := b + a0) (dst := b + a1) (cs := vp_cell (aT 0) (n0, .inl (M.1 a0))) (cd := vp_cell (aT 0) (n1, .inl (M.1 a1))) (srcPos := sp) (destPos := dp) (n := x) (by rw [hT]; exact hc0) (by rw [hT]; exact hc1)
    (fun _ h => by cases h) (fun _ h => by cases h) (fun h => by cases h) (fun h => by cases h) hk0 hk1 hkk0 hkk1 (by simp [refKind]) h1 h2 h3
    (by rw [nn sp h1, nn x h3]; show ¬ _ > ((arrV (aT 0) n0 (fun j => .int (M.1 a0 j))).slots.size : Int); rw [arrV_size]; omega)
    (by rw [nn dp h2, nn x h3]; show ¬ _ > ((arrV (aT 0) n1 (fun j => .int (M.1 a1 j))).slots.size : Int); rw [arrV_size]; omega)
    (fun vm₁ _ i hi => by
      have e : (vp_cell (aT 0) (n0, .inl (M.1 a0))).slots.getD (sp.toNatClampNeg + i) .null = .int (M.1 a0 (sp.toNatClampNeg + i)) := by
        show (arrV (aT 0) n0 (fun j => .int (M.1 a0 j))).slots.getD _ _ = _
        rw [Array.getD_eq_getD_getElem?, arrV_read _ _ (by omega)]
        rfl
      refine ⟨?_, ?_⟩
      · rw [e]
        rfl
      · rw [e]
        exact trivial)
    (g := F0 m pc ls (.int x :: .int dp :: .ref (b + a1) :: .int sp :: .ref (b + a0) :: st.map (mm_v b))) rfl (by rw [X.2.2.1]; exact hl.1) (rest := st.map (mm_v b)) rfl (by rw [X.2.1]; exact hd) (by show 1 ≤ d + 1; omega) (by show 2 * 0 + _ + _ ≤ 60 * (d + 1); rw [mm_cats]; omega)
  have e1 : copied (vp_cell (aT 0) (n0, .inl (M.1 a0))) (vp_cell (aT 0) (n1, .inl (M.1 a1))) sp dp x = vp_cell (aT 0) (n1, .inl (va_cpy (M.1 a0) (M.1 a1) sp.toNatClampNeg dp.toNatClampNeg x.toNatClampNeg)) := va_copied (fun z => .int z) (aT 0) (aT 0) (M.1 a0) (M.1 a1) h4
  rw [e1] at X' step
  have hlt : b + a1 < H.size := (Array.getElem?_eq_some_iff.mp hc1).1
  have hheap : ((T.setVm vm').setCell (b + a1) (vp_cell (aT 0) (n1, .inl (va_cpy (M.1 a0) (M.1 a1) sp.toNatClampNeg dp.toNatClampNeg x.toNatClampNeg)))).heap = H.setIfInBounds (b + a1) (vp_cell (aT 0) (n1, .inl (va_cpy (M.1 a0) (M.1 a1) sp.toNatClampNeg dp.toNatClampNeg x.toNatClampNeg))) := by rw [← hT]; rfl
  have oq : ∀ q : Nat, q ≠ b + a1 → (H.setIfInBounds (b + a1) (vp_cell (aT 0) (n1, .inl (va_cpy (M.1 a0) (M.1 a1) sp.toNatClampNeg dp.toNatClampNeg x.toNatClampNeg))))[q]? = H[q]? := fun q hq => by simp [Array.getElem?_setIfInBounds, Ne.symm hq]
  have hP1 := hP.set (A := fun q => b ≤ q) mm_D ha1 (e := .inl (aT 0, n1, .inl (va_cpy (M.1 a0) (M.1 a1) sp.toNatClampNeg dp.toNatClampNeg x.toNatClampNeg))) (show (H.setIfInBounds (b + a1) _)[b + a1]? = some _ by simp [Array.getElem?_setIfInBounds, hlt]) oq
  obtain ⟨t, g1, g2⟩ := kk b aT D p l e s m args below meth c _ _ ls X (mm_P_set (M' := mm_cp M a0 a1 sp.toNatClampNeg dp.toNatClampNeg x.toNatClampNeg) hP1 hs1 (by simp [mm_c, mm_cp, va_up]) (fun i hi => ⟨va_up_ne _ _ hi, rfl, rfl⟩)) (by rw [Array.size_setIfInBounds]; exact hz) ⟨by rw [Array.size_setIfInBounds]; exact hS.1, fun q g1 g2 => by
      rw [oq q (fun e => g2 (by rw [e]; exact Nat.le_add_right b a1))]
      exact hS.2.1 q g1 g2, fun q hq => by
      rcases List.mem_append.mp hq with h | h
      · exact hS.2.2 q h
      · obtain ⟨z, -, hz⟩ := List.mem_map.mp h
        rw [← hz]
        exact Nat.le_add_right b a1⟩ hl _ hheap X'
  exact ⟨t, step t g1, g2⟩
/-! Math.min, Math.max -/
section MMM
variable {y : mm_Y} {d mc ms pc idx : Nat} {lv : List (Nat × Value)} {st : List Value} {sh : mm_S} {M : mm_M} {k n : Nat} {Q : Option Value → mm_S → mm_M → Prop}
theorem mm_mmin {x z : Int32} (hd : decode y.2.1 pc = .ok (.invokestatic idx, 3)) (hlk : Cond.methodLink y.1.cls idx Lib.Math.min.name ∈ mm_ws) (hss : Cond.static Lib.Math.min.name ∈ mm_ws) (hin : Cond.initialized "java/lang/Math" ∈ mm_ws) (hco : Cond.code Lib.Math.min.name Lib.Math.min.code 2 (some .int) ∈ mm_ws) (hw : (st.map fun v => v.category).sum ≤ 8) (h1 : k ≤ mc) (h2 : n ≤ ms) (kk : mm_W y (d + 1) mc ms (pc + 3) lv (.int (if z < x then z else x) :: st) sh M k n Q) : mm_W y (d + 1) mc ms pc lv (.int z :: .int x :: st) sh M k n Q :=
  fun b aT D p l e s m args below meth c H locs ls X hP hz hS hl => va_mmin X.1 X.2.1 (by rw [X.2.2.1]; exact hl.1.symm) X.2.2.2.1 (X.2.2.2.2.1 _ hlk) (X.2.2.2.2.1 _ hss) (X.2.2.2.2.1 _ hin) (X.2.2.2.2.1 _ hco) (by show 1 ≤ d + 1; omega) (by rw [mm_cats]; show _ + 13 ≤ 60 * (d + 1); omega) h1 h2 hd (kk b aT D p l e s m args below meth c H locs ls X hP hz hS hl)
theorem mm_mmax {x z : Int32} (hd : decode y.2.1 pc = .ok (.invokestatic idx, 3)) (hlk : Cond.methodLink y.1.cls idx Lib.Math.max.name ∈ mm_ws) (hss : Cond.static Lib.Math.max.name ∈ mm_ws) (hin : Cond.initialized "java/lang/Math" ∈ mm_ws) (hco : Cond.code Lib.Math.max.name Lib.Math.max.code 2 (some .int) ∈ mm_ws) (hw : (st.map fun v => v.category).sum ≤ 8) (h1 : k ≤ mc) (h2 : n ≤ ms) (kk : mm_W y (d + 1) mc ms (pc + 3) lv (.int (if x < z then z else x) :: st) sh M k n Q) : mm_W y (d + 1) mc ms pc lv (.int z :: .int x :: st) sh M k n Q :=
  fun b aT D p l e s m args below meth c H locs ls X hP hz hS hl => va_mmax X.1 X.2.1 (by rw [X.2.2.1]; exact hl.1.symm) X.2.2.2.1 (X.2.2.2.2.1 _ hlk) (X.2.2.2.2.1 _ hss) (X.2.2.2.2.1 _ hin) (X.2.2.2.2.1 _ hco) (by show 1 ≤ d + 1; omega) (by rw [mm_cats]; show _ + 13 ≤ 60 * (d + 1); omega) h1 h2 hd (kk b aT D p l e s m args below meth c H locs ls X hP hz hS hl)
theorem mm_mminL {x z : Int64} (hd : decode y.2.1 pc = .ok (.invokestatic idx, 3)) (hlk : Cond.methodLink y.1.cls idx Lib.MathLoose.min_long.x ∈ mm_ws) (hss : Cond.static Lib.MathLoose.min_long.x ∈ mm_ws) (hin : Cond.initialized "java/lang/Math" ∈ mm_ws) (hco : Cond.code Lib.MathLoose.min_long.x Lib.MathLoose.min_long.code 4 (some .long) ∈ mm_ws) (hw : (st.map fun v => v.category).sum ≤ 8) (h1 : k ≤ mc) (h2 : n ≤ ms) (kk : mm_W y (d + 1) mc ms (pc + 3) lv (.long (if z < x then z else x) :: st) sh M k n Q) : mm_W y (d + 1) mc ms pc lv (.long z :: .long x :: st) sh M k n Q :=
  fun b aT D p l e s m args below meth c H locs ls X hP hz hS hl => va_mmin_long X.1 X.2.1 (by rw [X.2.2.1]; exact hl.1.symm) X.2.2.2.1 (X.2.2.2.2.1 _ hlk) (X.2.2.2.2.1 _ hss) (X.2.2.2.2.1 _ hin) (X.2.2.2.2.1 _ hco) (by show 1 ≤ d + 1; omega) (by rw [mm_cats]; show _ + 15 ≤ 60 * (d + 1); omega) h1 h2 hd (kk b aT D p l e s m args below meth c H locs ls X hP hz hS hl)
theorem mm_mmaxL {x z : Int64} (hd : decode y.2.1 pc = .ok (.invokestatic idx, 3)) (hlk : Cond.methodLink y.1.cls idx Lib.MathLoose.max_long.x ∈ mm_ws) (hss : Cond.static Lib.MathLoose.max_long.x ∈ mm_ws) (hin : Cond.initialized "java/lang/Math" ∈ mm_ws) (hco : Cond.code Lib.MathLoose.max_long.x Lib.MathLoose.max_long.code 4 (some .long) ∈ mm_ws) (hw : (st.map fun v => v.category).sum ≤ 8) (h1 : k ≤ mc) (h2 : n ≤ ms) (kk : mm_W y (d + 1) mc ms (pc + 3) lv (.long (if z < x then x else z) :: st) sh M k n Q) : mm_W y (d + 1) mc ms pc lv (.long z :: .long x :: st) sh M k n Q :=
  fun b aT D p l e s m args below meth c H locs ls X hP hz hS hl => va_mmax_long X.1 X.2.1 (by rw [X.2.2.1]; exact hl.1.symm) X.2.2.2.1 (X.2.2.2.2.1 _ hlk) (X.2.2.2.2.1 _ hss) (X.2.2.2.2.1 _ hin) (X.2.2.2.2.1 _ hco) (by show 1 ≤ d + 1; omega) (by rw [mm_cats]; show _ + 15 ≤ 60 * (d + 1); omega) h1 h2 hd (kk b aT D p l e s m args below meth c H locs ls X hP hz hS hl)
end MMM
