/-! constructors: shapes are beginnings of mm_SH -/
theorem ct_len {c : Nat} {q : Nat × Nat} (h : mm_SH[c]? = some q) : (mm_SH.take c).length = c := by
  rw [List.length_take]
  have := (List.getElem?_eq_some_iff.mp h).1
  omega
theorem ct_take {c : Nat} {q : Nat × Nat} (h : mm_SH[c]? = some q) : mm_SH.take c ++ [q] = mm_SH.take (c + 1) := by
  rw [List.take_succ, h]; rfl
theorem ct_sh {a c : Nat} {q : Nat × Nat} (h : mm_SH[a]? = some q) (hc : a < c) : (mm_SH.take c)[a]? = some q := by
  rw [List.getElem?_take, if_pos hc, h]
def mm_CT (y : mm_Y) (d mc ms : Nat) (vs : List Value) (c c' : Nat) (M : mm_M) (K : mm_M → Prop) : Prop := mm_C y d mc ms vs (mm_SH.take c) M (fun r s m => r = none ∧ s = mm_SH.take c' ∧ K m)
section CT
variable {y y' : mm_Y} {d mc ms pc idx c c' mc' ms' : Nat} {lv : List (Nat × Value)} {st rest : List Value} {M : mm_M} {k n : Nat} {Q : Option Value → mm_S → mm_M → Prop}
theorem ct_newarr {t N : Nat} {atype : ArrayType} {x : Int32} {ty : FieldType} (hd : decode y.2.1 pc = .ok (.newarray atype, 2)) (hty : newarray.typeOf atype = ty) (ht : (t = 0 ∧ ty = .int) ∨ (t = 1 ∧ ty = .long) ∨ (t = 2 ∧ ty = .char) ∨ (t = 3 ∧ ty = .boolean)) (harr : Cond.arrayClass ty ∈ mm_ws) (hx : ¬ x < 0) (hN : x.toNatClampNeg = N) (hby : N * componentBytes ty ≤ 536870912) (h1 : k + 1 ≤ mc) (h2 : n + N ≤ ms) (hs : mm_SH[c]? = some (t, N))
    (kk : mm_W y d mc ms (pc + 2) lv (.ref c :: st) (mm_SH.take (c + 1)) (mm_new M c) (k + 1) (n + N) Q) : mm_W y d mc ms pc lv (.int x :: st) (mm_SH.take c) M k n Q := by
  refine mm_newarr hd hty ht harr hx hN hby h1 h2 ?_
  rw [ct_len hs, ct_take hs]
  exact kk
theorem ct_newq {N : Nat} {x : Int32} (hd : decode y.2.1 pc = .ok (.anewarray idx, 3)) (hcl : Cond.classLink y.1.cls idx "EnemyBread$State" ∈ mm_ws) (hx : ¬ x < 0) (hN : x.toNatClampNeg = N) (hby : N * 4 ≤ 536870912) (h1 : k + 1 ≤ mc) (h2 : n + N ≤ ms) (hs : mm_SH[c]? = some (4, N))
    (kk : mm_W y d mc ms (pc + 3) lv (.ref c :: st) (mm_SH.take (c + 1)) (mm_new M c) (k + 1) (n + N) Q) : mm_W y d mc ms pc lv (.int x :: st) (mm_SH.take c) M k n Q := by
  refine mm_newq hd hcl hx hN hby h1 h2 ?_
  rw [ct_len hs, ct_take hs]
  exact kk
theorem ct_newo {N ci : Nat} {C : String} {T : u_T} (hd : decode y.2.1 pc = .ok (.new idx, 3)) (hc : vwCl[ci]? = some (C, T, N)) (hcl : Cond.classLink y.1.cls idx C ∈ mm_ws) (hins : Cond.instantiable C N ∈ mm_ws) (hini : Cond.initialized C ∈ mm_ws) (hkd : ∀ j, j < N → mm_kd (mm_ty ci j) < 3) (h1 : k + 1 ≤ mc) (h2 : n + N ≤ ms) (hs : mm_SH[c]? = some (ci + 5, N))
    (kk : mm_W y d mc ms (pc + 3) lv (.ref c :: st) (mm_SH.take (c + 1)) (mm_new M c) (k + 1) (n + N) Q) : mm_W y d mc ms pc lv st (mm_SH.take c) M k n Q := by
  refine mm_newo hd hc hcl hins hini hkd h1 h2 ?_
  rw [ct_len hs, ct_take hs]
  exact kk
theorem ct_callI {a : Nat} {K : mm_M → Prop} (hd : decode y.2.1 pc = .ok (.invokespecial idx, 3)) (hlk : Cond.methodLink y.1.cls idx y'.1 ∈ mm_ws) (hB : mm_B y' 0) (hrt : y'.2.2.2 = none) (hnm : y'.1.name = "<init>") (hin : Cond.instanceMethod y'.1 ∈ mm_ws) (hw : (rest.map fun v => v.category).sum ≤ 8) (hln : 1 ≤ y'.2.2.1) (h1 : k + mc' ≤ mc) (h2 : n + ms' ≤ ms) (h : mm_CT y' d mc' ms' [.ref a] c c' M K)
    (kk : ∀ m, K m → mm_W y (d + 1) mc ms (pc + 3) lv rest (mm_SH.take c') m (k + mc') (n + ms') Q) : mm_W y (d + 1) mc ms pc lv (.ref a :: rest) (mm_SH.take c) M k n Q :=
  mm_callI (As := []) hd hlk hB hrt hnm hin rfl hw hln h1 h2 (mm_post (fun _ _ _ ⟨h1, h2, h3⟩ => by subst h1; subst h2; exact kk _ h3) h)
theorem ct_callIN {a : Nat} {host : String} {K : mm_M → Prop} (hd : decode y.2.1 pc = .ok (.invokespecial idx, 3)) (hlk : Cond.methodLinkNest y.1.cls idx y'.1 host ∈ mm_nest) (hB : mm_B y' 0) (hrt : y'.2.2.2 = none) (hnm : y'.1.name = "<init>") (hin : Cond.instanceMethod y'.1 ∈ mm_ws) (hw : (rest.map fun v => v.category).sum ≤ 8) (hln : 1 ≤ y'.2.2.1) (h1 : k + mc' ≤ mc) (h2 : n + ms' ≤ ms) (h : mm_CT y' d mc' ms' [.ref a] c c' M K)
    (kk : ∀ m, K m → mm_W y (d + 1) mc ms (pc + 3) lv rest (mm_SH.take c') m (k + mc') (n + ms') Q) : mm_W y (d + 1) mc ms pc lv (.ref a :: rest) (mm_SH.take c) M k n Q :=
  mm_callIN (As := []) hd hlk hB hrt hnm hin rfl hw hln h1 h2 (mm_post (fun _ _ _ ⟨h1, h2, h3⟩ => by subst h1; subst h2; exact kk _ h3) h)
end CT
theorem ct_aast {y : mm_Y} {d mc ms pc : Nat} {lv : List (Nat × Value)} {st : List Value} {sh : mm_S} {M : mm_M} {k n : Nat} {Q : Option Value → mm_S → mm_M → Prop} {a N r ci : Nat} {i : Int32} {q : vw_C} (hd : decode y.2.1 pc = .ok (.aastore, 1)) (hsh : sh[a]? = some (4, N)) (hr : sh[r]? = some (ci + 5, q.2.2)) (hc : vwCl[ci]? = some q) (hq : q.1 = "EnemyBread$State") (hin : vp_in i N) (kk : mm_W y d mc ms (pc + 1) lv st sh (mm_uR M a i.toNatClampNeg (some r)) k n Q) : mm_W y d mc ms pc lv (.ref r :: .int i :: .ref a :: st) sh M k n Q := by
  intro b aT D p l e s m args below meth c H locs ls X hP hz hS hl
  have hK := X.2.2.2.2.2.2.2.2.1.1
  have ha : (mm_w b aT sh M)[a]? = some (b + a, mm_c b aT M a (4, N)) := mm_w_at hsh
  have hv : (mm_w b aT sh M)[r]? = some (b + r, mm_c b aT M r (ci + 5, q.2.2)) := mm_w_at hr
  have hlt : i.toNatClampNeg < N := Nat.not_le.mp fun q => hin (Or.inr q)
  have h0 : ¬ i < 0 := fun q => hin (Or.inl q)
  obtain ⟨r', hr', cellV, g1, g2, g3, -⟩ := hP r _ hv
  have hcls := (hK.1 ci q hc).2
  obtain ⟨kA, comp, k1, k2, k3, -⟩ := (hK.2 4 _ rfl).2
  rw [← hq] at k3
  have hcomp : comp = D.1 ci := Option.some.inj (k3.symm.trans hcls.1)
  subst hcomp
  obtain ⟨kC, hkC, -⟩ := hcls.2
  refine W.aast X.1 X.2.1 (hP a _ ha) (fun q h => by cases h) (fun h => by cases h) k1 k2 rfl hkC ⟨h0, by show _ < (arrV _ _ _).slots.size; rw [arrV_size]; exact hlt⟩ g1 (fun q h => by rw [g3] at h; cases h) (by rw [g2]; exact hkC) (by rw [g2]; exact va_assign hcls) rfl rfl hd fun H1 e1 z oq => ?_
  refine kk b aT D p l e s m args below meth c H1 _ ls X (mm_P_set (M := M) (e := mm_c b aT (mm_uR M a i.toNatClampNeg (some r)) a (4, N)) (hP.set (A := fun q => b ≤ q) mm_D ha ?_ oq) hsh rfl mm_oR) (by rw [z]; exact hz) (hS.put z oq (Nat.le_add_right b a)) hl
  show H1[b + a]? = some (vp_cell _ _)
  rw [e1]
  simp only [mm_c]
  rw [vp_cell_q, vp_cell_q, arrV_store]
  congr 2
  funext q
  by_cases hq : q = i.toNatClampNeg
  · subst hq
    simp [updV, mm_uR, va_up, va_rf]
  · simp [updV, mm_uR, va_up, hq]
theorem sh_Rd_1 {a : Nat} (h : a ∈ mm_Rds) : mm_SH[a + 1]? = some (0, 0) := (by decide +kernel : ∀ a ∈ mm_Rds, mm_SH[a + 1]? = some (0, 0)) a h
theorem sh_Rd_2 {a : Nat} (h : a ∈ mm_Rds) : mm_SH[a + 2]? = some (0, 0) := (by decide +kernel : ∀ a ∈ mm_Rds, mm_SH[a + 2]? = some (0, 0)) a h
theorem bX0_init : mm_B mX0_init 0 := ⟨mm_mem (List.mem_append_right _ (List.mem_append_left _ (List.mem_of_getElem? (l := tables_1_1) (i := 6) (by decide +kernel)))) rfl, mm_mem (List.mem_append_right _ (List.mem_append_left _ (List.mem_of_getElem? (l := tables_1_1) (i := 187) (rfl)))) rfl, ⟨by decide +kernel, by decide +kernel, by decide +kernel⟩, by decide +kernel, by decide⟩
theorem iX0_init : Cond.instanceMethod mX0_init.1 ∈ mm_ws := mm_mem (List.mem_append_right _ (List.mem_append_left _ (List.mem_of_getElem? (l := tables_1_1) (i := 186) (by decide +kernel)))) rfl
theorem bX1_init : mm_B mX1_init 0 := ⟨mm_mem (List.mem_append_right _ (List.mem_append_left _ (List.mem_of_getElem? (l := tables_1_1) (i := 7) (by decide +kernel)))) rfl, mm_mem (List.mem_append_right _ (List.mem_append_left _ (List.mem_of_getElem? (l := tables_1_1) (i := 206) (rfl)))) rfl, ⟨by decide +kernel, by decide +kernel, by decide +kernel⟩, by decide +kernel, by decide⟩
theorem iX1_init : Cond.instanceMethod mX1_init.1 ∈ mm_ws := mm_mem (List.mem_append_right _ (List.mem_append_left _ (List.mem_of_getElem? (l := tables_1_1) (i := 205) (by decide +kernel)))) rfl
theorem bX2_init : mm_B mX2_init 0 := ⟨mm_mem (List.mem_append_right _ (List.mem_append_left _ (List.mem_of_getElem? (l := tables_1_1) (i := 3) (by decide +kernel)))) rfl, mm_mem (List.mem_append_right _ (List.mem_append_left _ (List.mem_of_getElem? (l := tables_1_1) (i := 37) (rfl)))) rfl, ⟨by decide +kernel, by decide +kernel, by decide +kernel⟩, by decide +kernel, by decide⟩
theorem iX2_init : Cond.instanceMethod mX2_init.1 ∈ mm_ws := mm_mem (List.mem_append_right _ (List.mem_append_left _ (List.mem_of_getElem? (l := tables_1_1) (i := 36) (by decide +kernel)))) rfl
theorem bX3_init : mm_B mX3_init 0 := ⟨mm_mem (List.mem_append_right _ (List.mem_append_left _ (List.mem_of_getElem? (l := tables_1_1) (i := 11) (by decide +kernel)))) rfl, mm_mem (List.mem_append_right _ (List.mem_append_right _ (List.mem_append_left _ (List.mem_of_getElem? (l := tables_1_2) (i := 131) (rfl))))) rfl, ⟨by decide +kernel, by decide +kernel, by decide +kernel⟩, by decide +kernel, by decide⟩
theorem iX3_init : Cond.instanceMethod mX3_init.1 ∈ mm_ws := mm_mem (List.mem_append_right _ (List.mem_append_right _ (List.mem_append_left _ (List.mem_of_getElem? (l := tables_1_2) (i := 130) (by decide +kernel))))) rfl
theorem bX4_init : mm_B mX4_init 0 := ⟨mm_mem (List.mem_append_right _ (List.mem_append_left _ (List.mem_of_getElem? (l := tables_1_1) (i := 9) (by decide +kernel)))) rfl, mm_mem (List.mem_append_right _ (List.mem_append_right _ (List.mem_append_left _ (List.mem_of_getElem? (l := tables_1_2) (i := 66) (rfl))))) rfl, ⟨by decide +kernel, by decide +kernel, by decide +kernel⟩, by decide +kernel, by decide⟩
theorem iX4_init : Cond.instanceMethod mX4_init.1 ∈ mm_ws := mm_mem (List.mem_append_right _ (List.mem_append_right _ (List.mem_append_left _ (List.mem_of_getElem? (l := tables_1_2) (i := 65) (by decide +kernel))))) rfl
theorem bX5_init : mm_B mX5_init 0 := ⟨mm_mem (List.mem_append_right _ (List.mem_append_left _ (List.mem_of_getElem? (l := tables_1_1) (i := 8) (by decide +kernel)))) rfl, mm_mem (List.mem_append_right _ (List.mem_append_left _ (List.mem_of_getElem? (l := tables_1_1) (i := 214) (rfl)))) rfl, ⟨by decide +kernel, by decide +kernel, by decide +kernel⟩, by decide +kernel, by decide⟩
theorem iX5_init : Cond.instanceMethod mX5_init.1 ∈ mm_ws := mm_mem (List.mem_append_right _ (List.mem_append_left _ (List.mem_of_getElem? (l := tables_1_1) (i := 213) (by decide +kernel)))) rfl
theorem bX6_init : mm_B mX6_init 0 := ⟨mm_mem (List.mem_append_right _ (List.mem_append_left _ (List.mem_of_getElem? (l := tables_1_1) (i := 4) (by decide +kernel)))) rfl, mm_mem (List.mem_append_right _ (List.mem_append_left _ (List.mem_of_getElem? (l := tables_1_1) (i := 43) (rfl)))) rfl, ⟨by decide +kernel, by decide +kernel, by decide +kernel⟩, by decide +kernel, by decide⟩
theorem iX6_init : Cond.instanceMethod mX6_init.1 ∈ mm_ws := mm_mem (List.mem_append_right _ (List.mem_append_left _ (List.mem_of_getElem? (l := tables_1_1) (i := 42) (by decide +kernel)))) rfl
theorem bX7_init : mm_B mX7_init 0 := ⟨mm_mem (List.mem_append_right _ (List.mem_append_left _ (List.mem_of_getElem? (l := tables_1_1) (i := 5) (by decide +kernel)))) rfl, mm_mem (List.mem_append_right _ (List.mem_append_left _ (List.mem_of_getElem? (l := tables_1_1) (i := 113) (rfl)))) rfl, ⟨by decide +kernel, by decide +kernel, by decide +kernel⟩, by decide +kernel, by decide⟩
theorem iX7_init : Cond.instanceMethod mX7_init.1 ∈ mm_ws := mm_mem (List.mem_append_right _ (List.mem_append_left _ (List.mem_of_getElem? (l := tables_1_1) (i := 112) (by decide +kernel)))) rfl
theorem bX8_init : mm_B mX8_init 0 := ⟨mm_mem (List.mem_append_right _ (List.mem_append_left _ (List.mem_of_getElem? (l := tables_1_1) (i := 12) (by decide +kernel)))) rfl, mm_mem (List.mem_append_right _ (List.mem_append_right _ (List.mem_append_left _ (List.mem_of_getElem? (l := tables_1_2) (i := 157) (rfl))))) rfl, ⟨by decide +kernel, by decide +kernel, by decide +kernel⟩, by decide +kernel, by decide⟩
theorem iX8_init : Cond.instanceMethod mX8_init.1 ∈ mm_ws := mm_mem (List.mem_append_right _ (List.mem_append_right _ (List.mem_append_left _ (List.mem_of_getElem? (l := tables_1_2) (i := 156) (by decide +kernel))))) rfl
theorem bX9_init : mm_B mX9_init 0 := ⟨mm_mem (List.mem_append_right _ (List.mem_append_left _ (List.mem_of_getElem? (l := tables_1_1) (i := 2) (by decide +kernel)))) rfl, mm_mem (List.mem_append_right _ (List.mem_append_right _ (List.mem_append_left _ (List.mem_of_getElem? (l := tables_1_2) (i := 20) (rfl))))) rfl, ⟨by decide +kernel, by decide +kernel, by decide +kernel⟩, by decide +kernel, by decide⟩
theorem iX9_init : Cond.instanceMethod mX9_init.1 ∈ mm_ws := mm_mem (List.mem_append_right _ (List.mem_append_right _ (List.mem_append_left _ (List.mem_of_getElem? (l := tables_1_2) (i := 19) (by decide +kernel))))) rfl
theorem bX10_init : mm_B mX10_init 0 := ⟨mm_mem (List.mem_append_right _ (List.mem_append_left _ (List.mem_of_getElem? (l := tables_1_1) (i := 10) (by decide +kernel)))) rfl, mm_mem (List.mem_append_right _ (List.mem_append_right _ (List.mem_append_left _ (List.mem_of_getElem? (l := tables_1_2) (i := 86) (rfl))))) rfl, ⟨by decide +kernel, by decide +kernel, by decide +kernel⟩, by decide +kernel, by decide⟩
theorem iX10_init : Cond.instanceMethod mX10_init.1 ∈ mm_ws := mm_mem (List.mem_append_right _ (List.mem_append_right _ (List.mem_append_left _ (List.mem_of_getElem? (l := tables_1_2) (i := 85) (by decide +kernel))))) rfl
theorem bX11_init : mm_B mX11_init 0 := ⟨mm_mem (List.mem_append_right _ (List.mem_append_left _ (List.mem_of_getElem? (l := tables_1_1) (i := 1) (by decide +kernel)))) rfl, mm_mem (List.mem_append_right _ (List.mem_append_left _ (List.mem_of_getElem? (l := tables_1_1) (i := 26) (rfl)))) rfl, ⟨by decide +kernel, by decide +kernel, by decide +kernel⟩, by decide +kernel, by decide⟩
theorem iX11_init : Cond.instanceMethod mX11_init.1 ∈ mm_ws := mm_mem (List.mem_append_right _ (List.mem_append_left _ (List.mem_of_getElem? (l := tables_1_1) (i := 25) (by decide +kernel)))) rfl
theorem bX12_init : mm_B mX12_init 0 := ⟨mm_mem (List.mem_append_right _ (List.mem_append_left _ (List.mem_of_getElem? (l := tables_1_1) (i := 13) (by decide +kernel)))) rfl, mm_mem (List.mem_append_right _ (List.mem_append_right _ (List.mem_append_right _ (List.mem_append_right _ (List.mem_append_right _ (List.mem_append_right _ (List.mem_append_left _ (List.mem_of_getElem? (l := tables_1_6) (i := 1) (rfl))))))))) rfl, ⟨by decide +kernel, by decide +kernel, by decide +kernel⟩, by decide +kernel, by decide⟩
theorem iX12_init : Cond.instanceMethod mX12_init.1 ∈ mm_ws := mm_mem (List.mem_append_right _ (List.mem_append_right _ (List.mem_append_right _ (List.mem_append_right _ (List.mem_append_right _ (List.mem_append_right _ (List.mem_append_left _ (List.mem_of_getElem? (l := tables_1_6) (i := 0) (by decide +kernel))))))))) rfl
theorem qn11 : Cond.initialized "EnemyBread" ∈ mm_ws := mm_mem (List.mem_append_right _ (List.mem_append_left _ (List.mem_of_getElem? (l := tables_1_1) (i := 1) (by decide +kernel)))) rfl
theorem qn9 : Cond.initialized "EnemyBread$State" ∈ mm_ws := mm_mem (List.mem_append_right _ (List.mem_append_left _ (List.mem_of_getElem? (l := tables_1_1) (i := 2) (by decide +kernel)))) rfl
theorem qn2 : Cond.initialized "EnemyBread$DuchyReader" ∈ mm_ws := mm_mem (List.mem_append_right _ (List.mem_append_left _ (List.mem_of_getElem? (l := tables_1_1) (i := 3) (by decide +kernel)))) rfl
theorem qn6 : Cond.initialized "EnemyBread$Reader" ∈ mm_ws := mm_mem (List.mem_append_right _ (List.mem_append_left _ (List.mem_of_getElem? (l := tables_1_1) (i := 4) (by decide +kernel)))) rfl
theorem qn7 : Cond.initialized "EnemyBread$Rules" ∈ mm_ws := mm_mem (List.mem_append_right _ (List.mem_append_left _ (List.mem_of_getElem? (l := tables_1_1) (i := 5) (by decide +kernel)))) rfl
theorem qn0 : Cond.initialized "EnemyBread$Asker" ∈ mm_ws := mm_mem (List.mem_append_right _ (List.mem_append_left _ (List.mem_of_getElem? (l := tables_1_1) (i := 6) (by decide +kernel)))) rfl
theorem qn1 : Cond.initialized "EnemyBread$Calendar" ∈ mm_ws := mm_mem (List.mem_append_right _ (List.mem_append_left _ (List.mem_of_getElem? (l := tables_1_1) (i := 7) (by decide +kernel)))) rfl
theorem qn5 : Cond.initialized "EnemyBread$Machine" ∈ mm_ws := mm_mem (List.mem_append_right _ (List.mem_append_left _ (List.mem_of_getElem? (l := tables_1_1) (i := 8) (by decide +kernel)))) rfl
theorem qn4 : Cond.initialized "EnemyBread$History" ∈ mm_ws := mm_mem (List.mem_append_right _ (List.mem_append_left _ (List.mem_of_getElem? (l := tables_1_1) (i := 9) (by decide +kernel)))) rfl
theorem qn10 : Cond.initialized "EnemyBread$Tables" ∈ mm_ws := mm_mem (List.mem_append_right _ (List.mem_append_left _ (List.mem_of_getElem? (l := tables_1_1) (i := 10) (by decide +kernel)))) rfl
theorem qn3 : Cond.initialized "EnemyBread$Endings" ∈ mm_ws := mm_mem (List.mem_append_right _ (List.mem_append_left _ (List.mem_of_getElem? (l := tables_1_1) (i := 11) (by decide +kernel)))) rfl
theorem qn8 : Cond.initialized "EnemyBread$Sight" ∈ mm_ws := mm_mem (List.mem_append_right _ (List.mem_append_left _ (List.mem_of_getElem? (l := tables_1_1) (i := 12) (by decide +kernel)))) rfl
theorem qn12 : Cond.initialized "EnemyBreadModel" ∈ mm_ws := mm_mem (List.mem_append_right _ (List.mem_append_left _ (List.mem_of_getElem? (l := tables_1_1) (i := 13) (by decide +kernel)))) rfl
theorem qL_7 : Cond.classLink RL 7 "EnemyBread" ∈ mm_ws := mm_mem (List.mem_append_right _ (List.mem_append_left _ (List.mem_of_getElem? (l := tables_1_1) (i := 22) (by decide +kernel)))) rfl
theorem qi11 : Cond.instantiable "EnemyBread" 19 ∈ mm_ws := mm_mem (List.mem_append_right _ (List.mem_append_left _ (List.mem_of_getElem? (l := tables_1_1) (i := 23) (by decide +kernel)))) rfl
theorem kL_9 : Cond.methodLink RL 9 mX11_init.1 ∈ mm_ws := mm_mem (List.mem_append_right _ (List.mem_append_left _ (List.mem_of_getElem? (l := tables_1_1) (i := 24) (by decide +kernel)))) rfl
theorem kX11_1 : Cond.methodLink RX11 1 Lib.objectInit ∈ mm_ws := mm_mem (List.mem_append_right _ (List.mem_append_left _ (List.mem_of_getElem? (l := tables_1_1) (i := 27) (rfl)))) rfl
theorem qX11_32 : Cond.classLink RX11 32 "EnemyBread$DuchyReader" ∈ mm_ws := mm_mem (List.mem_append_right _ (List.mem_append_left _ (List.mem_of_getElem? (l := tables_1_1) (i := 33) (by decide +kernel)))) rfl
theorem qi2 : Cond.instantiable "EnemyBread$DuchyReader" 3 ∈ mm_ws := mm_mem (List.mem_append_right _ (List.mem_append_left _ (List.mem_of_getElem? (l := tables_1_1) (i := 34) (by decide +kernel)))) rfl
theorem kX11_34 : Cond.methodLinkNest RX11 34 mX2_init.1 "EnemyBread" ∈ mm_nest := mm_memN (List.mem_append_right _ (List.mem_append_left _ (List.mem_of_getElem? (l := tables_1_1) (i := 35) (by decide +kernel)))) rfl
theorem kX2_7 : Cond.methodLink RX2 7 Lib.objectInit ∈ mm_ws := mm_mem (List.mem_append_right _ (List.mem_append_left _ (List.mem_of_getElem? (l := tables_1_1) (i := 38) (rfl)))) rfl
theorem qX2_1 : Cond.classLink RX2 1 "EnemyBread$Reader" ∈ mm_ws := mm_mem (List.mem_append_right _ (List.mem_append_left _ (List.mem_of_getElem? (l := tables_1_1) (i := 39) (by decide +kernel)))) rfl
theorem qi6 : Cond.instantiable "EnemyBread$Reader" 15 ∈ mm_ws := mm_mem (List.mem_append_right _ (List.mem_append_left _ (List.mem_of_getElem? (l := tables_1_1) (i := 40) (by decide +kernel)))) rfl
theorem kX2_13 : Cond.methodLinkNest RX2 13 mX6_init.1 "EnemyBread" ∈ mm_nest := mm_memN (List.mem_append_right _ (List.mem_append_left _ (List.mem_of_getElem? (l := tables_1_1) (i := 41) (by decide +kernel)))) rfl
theorem kX6_3 : Cond.methodLink RX6 3 Lib.objectInit ∈ mm_ws := mm_mem (List.mem_append_right _ (List.mem_append_left _ (List.mem_of_getElem? (l := tables_1_1) (i := 44) (rfl)))) rfl
theorem qX2_18 : Cond.classLink RX2 18 "EnemyBread$Rules" ∈ mm_ws := mm_mem (List.mem_append_right _ (List.mem_append_left _ (List.mem_of_getElem? (l := tables_1_1) (i := 109) (by decide +kernel)))) rfl
theorem qi7 : Cond.instantiable "EnemyBread$Rules" 11 ∈ mm_ws := mm_mem (List.mem_append_right _ (List.mem_append_left _ (List.mem_of_getElem? (l := tables_1_1) (i := 110) (by decide +kernel)))) rfl
theorem kX2_20 : Cond.methodLinkNest RX2 20 mX7_init.1 "EnemyBread" ∈ mm_nest := mm_memN (List.mem_append_right _ (List.mem_append_left _ (List.mem_of_getElem? (l := tables_1_1) (i := 111) (by decide +kernel)))) rfl
theorem kX7_3 : Cond.methodLink RX7 3 Lib.objectInit ∈ mm_ws := mm_mem (List.mem_append_right _ (List.mem_append_left _ (List.mem_of_getElem? (l := tables_1_1) (i := 114) (rfl)))) rfl
theorem qX11_39 : Cond.classLink RX11 39 "EnemyBread$Asker" ∈ mm_ws := mm_mem (List.mem_append_right _ (List.mem_append_left _ (List.mem_of_getElem? (l := tables_1_1) (i := 183) (by decide +kernel)))) rfl
theorem qi0 : Cond.instantiable "EnemyBread$Asker" 3 ∈ mm_ws := mm_mem (List.mem_append_right _ (List.mem_append_left _ (List.mem_of_getElem? (l := tables_1_1) (i := 184) (by decide +kernel)))) rfl
theorem kX11_41 : Cond.methodLinkNest RX11 41 mX0_init.1 "EnemyBread" ∈ mm_nest := mm_memN (List.mem_append_right _ (List.mem_append_left _ (List.mem_of_getElem? (l := tables_1_1) (i := 185) (by decide +kernel)))) rfl
theorem kX0_7 : Cond.methodLink RX0 7 Lib.objectInit ∈ mm_ws := mm_mem (List.mem_append_right _ (List.mem_append_left _ (List.mem_of_getElem? (l := tables_1_1) (i := 188) (rfl)))) rfl
theorem qX0_3 : Cond.classLink RX0 3 "EnemyBread$Reader" ∈ mm_ws := mm_mem (List.mem_append_right _ (List.mem_append_left _ (List.mem_of_getElem? (l := tables_1_1) (i := 189) (by decide +kernel)))) rfl
theorem kX0_13 : Cond.methodLinkNest RX0 13 mX6_init.1 "EnemyBread" ∈ mm_nest := mm_memN (List.mem_append_right _ (List.mem_append_left _ (List.mem_of_getElem? (l := tables_1_1) (i := 190) (by decide +kernel)))) rfl
theorem qX11_46 : Cond.classLink RX11 46 "EnemyBread$Calendar" ∈ mm_ws := mm_mem (List.mem_append_right _ (List.mem_append_left _ (List.mem_of_getElem? (l := tables_1_1) (i := 202) (by decide +kernel)))) rfl
theorem qi1 : Cond.instantiable "EnemyBread$Calendar" 5 ∈ mm_ws := mm_mem (List.mem_append_right _ (List.mem_append_left _ (List.mem_of_getElem? (l := tables_1_1) (i := 203) (by decide +kernel)))) rfl
theorem kX11_48 : Cond.methodLinkNest RX11 48 mX1_init.1 "EnemyBread" ∈ mm_nest := mm_memN (List.mem_append_right _ (List.mem_append_left _ (List.mem_of_getElem? (l := tables_1_1) (i := 204) (by decide +kernel)))) rfl
theorem kX1_3 : Cond.methodLink RX1 3 Lib.objectInit ∈ mm_ws := mm_mem (List.mem_append_right _ (List.mem_append_left _ (List.mem_of_getElem? (l := tables_1_1) (i := 207) (rfl)))) rfl
theorem qX1_9 : Cond.classLink RX1 9 "EnemyBread$Rules" ∈ mm_ws := mm_mem (List.mem_append_right _ (List.mem_append_left _ (List.mem_of_getElem? (l := tables_1_1) (i := 208) (by decide +kernel)))) rfl
theorem kX1_11 : Cond.methodLinkNest RX1 11 mX7_init.1 "EnemyBread" ∈ mm_nest := mm_memN (List.mem_append_right _ (List.mem_append_left _ (List.mem_of_getElem? (l := tables_1_1) (i := 209) (by decide +kernel)))) rfl
theorem qX1_18 : Cond.classLink RX1 18 "EnemyBread$Machine" ∈ mm_ws := mm_mem (List.mem_append_right _ (List.mem_append_left _ (List.mem_of_getElem? (l := tables_1_1) (i := 210) (by decide +kernel)))) rfl
theorem qi5 : Cond.instantiable "EnemyBread$Machine" 4 ∈ mm_ws := mm_mem (List.mem_append_right _ (List.mem_append_left _ (List.mem_of_getElem? (l := tables_1_1) (i := 211) (by decide +kernel)))) rfl
theorem kX1_20 : Cond.methodLinkNest RX1 20 mX5_init.1 "EnemyBread" ∈ mm_nest := mm_memN (List.mem_append_right _ (List.mem_append_left _ (List.mem_of_getElem? (l := tables_1_1) (i := 212) (by decide +kernel)))) rfl
theorem kX5_3 : Cond.methodLink RX5 3 Lib.objectInit ∈ mm_ws := mm_mem (List.mem_append_right _ (List.mem_append_left _ (List.mem_of_getElem? (l := tables_1_1) (i := 215) (rfl)))) rfl
theorem qX11_24 : Cond.classLink RX11 24 "EnemyBread$State" ∈ mm_ws := mm_mem (List.mem_append_right _ (List.mem_append_right _ (List.mem_append_left _ (List.mem_of_getElem? (l := tables_1_2) (i := 16) (by decide +kernel))))) rfl
theorem qi9 : Cond.instantiable "EnemyBread$State" 7 ∈ mm_ws := mm_mem (List.mem_append_right _ (List.mem_append_right _ (List.mem_append_left _ (List.mem_of_getElem? (l := tables_1_2) (i := 17) (by decide +kernel))))) rfl
theorem kX11_58 : Cond.methodLinkNest RX11 58 mX9_init.1 "EnemyBread" ∈ mm_nest := mm_memN (List.mem_append_right _ (List.mem_append_right _ (List.mem_append_left _ (List.mem_of_getElem? (l := tables_1_2) (i := 18) (by decide +kernel))))) rfl
theorem kX9_3 : Cond.methodLink RX9 3 Lib.objectInit ∈ mm_ws := mm_mem (List.mem_append_right _ (List.mem_append_right _ (List.mem_append_left _ (List.mem_of_getElem? (l := tables_1_2) (i := 21) (rfl))))) rfl
theorem qX11_66 : Cond.classLink RX11 66 "EnemyBread$History" ∈ mm_ws := mm_mem (List.mem_append_right _ (List.mem_append_right _ (List.mem_append_left _ (List.mem_of_getElem? (l := tables_1_2) (i := 62) (by decide +kernel))))) rfl
theorem qi4 : Cond.instantiable "EnemyBread$History" 3 ∈ mm_ws := mm_mem (List.mem_append_right _ (List.mem_append_right _ (List.mem_append_left _ (List.mem_of_getElem? (l := tables_1_2) (i := 63) (by decide +kernel))))) rfl
theorem kX11_68 : Cond.methodLink RX11 68 mX4_init.1 ∈ mm_ws := mm_mem (List.mem_append_right _ (List.mem_append_right _ (List.mem_append_left _ (List.mem_of_getElem? (l := tables_1_2) (i := 64) (by decide +kernel))))) rfl
theorem kX4_1 : Cond.methodLink RX4 1 Lib.objectInit ∈ mm_ws := mm_mem (List.mem_append_right _ (List.mem_append_right _ (List.mem_append_left _ (List.mem_of_getElem? (l := tables_1_2) (i := 67) (rfl))))) rfl
theorem qX4_9 : Cond.classLink RX4 9 "EnemyBread$State" ∈ mm_ws := mm_mem (List.mem_append_right _ (List.mem_append_right _ (List.mem_append_left _ (List.mem_of_getElem? (l := tables_1_2) (i := 68) (by decide +kernel))))) rfl
theorem kX4_15 : Cond.methodLinkNest RX4 15 mX9_init.1 "EnemyBread" ∈ mm_nest := mm_memN (List.mem_append_right _ (List.mem_append_right _ (List.mem_append_left _ (List.mem_of_getElem? (l := tables_1_2) (i := 70) (by decide +kernel))))) rfl
theorem qX11_73 : Cond.classLink RX11 73 "EnemyBread$Tables" ∈ mm_ws := mm_mem (List.mem_append_right _ (List.mem_append_right _ (List.mem_append_left _ (List.mem_of_getElem? (l := tables_1_2) (i := 82) (by decide +kernel))))) rfl
theorem qi10 : Cond.instantiable "EnemyBread$Tables" 11 ∈ mm_ws := mm_mem (List.mem_append_right _ (List.mem_append_right _ (List.mem_append_left _ (List.mem_of_getElem? (l := tables_1_2) (i := 83) (by decide +kernel))))) rfl
theorem kX11_75 : Cond.methodLinkNest RX11 75 mX10_init.1 "EnemyBread" ∈ mm_nest := mm_memN (List.mem_append_right _ (List.mem_append_right _ (List.mem_append_left _ (List.mem_of_getElem? (l := tables_1_2) (i := 84) (by decide +kernel))))) rfl
theorem kX10_3 : Cond.methodLink RX10 3 Lib.objectInit ∈ mm_ws := mm_mem (List.mem_append_right _ (List.mem_append_right _ (List.mem_append_left _ (List.mem_of_getElem? (l := tables_1_2) (i := 87) (rfl))))) rfl
theorem qX11_80 : Cond.classLink RX11 80 "EnemyBread$Endings" ∈ mm_ws := mm_mem (List.mem_append_right _ (List.mem_append_right _ (List.mem_append_left _ (List.mem_of_getElem? (l := tables_1_2) (i := 127) (by decide +kernel))))) rfl
theorem qi3 : Cond.instantiable "EnemyBread$Endings" 6 ∈ mm_ws := mm_mem (List.mem_append_right _ (List.mem_append_right _ (List.mem_append_left _ (List.mem_of_getElem? (l := tables_1_2) (i := 128) (by decide +kernel))))) rfl
theorem kX11_82 : Cond.methodLinkNest RX11 82 mX3_init.1 "EnemyBread" ∈ mm_nest := mm_memN (List.mem_append_right _ (List.mem_append_right _ (List.mem_append_left _ (List.mem_of_getElem? (l := tables_1_2) (i := 129) (by decide +kernel))))) rfl
theorem kX3_3 : Cond.methodLink RX3 3 Lib.objectInit ∈ mm_ws := mm_mem (List.mem_append_right _ (List.mem_append_right _ (List.mem_append_left _ (List.mem_of_getElem? (l := tables_1_2) (i := 132) (rfl))))) rfl
theorem qX11_87 : Cond.classLink RX11 87 "EnemyBread$Sight" ∈ mm_ws := mm_mem (List.mem_append_right _ (List.mem_append_right _ (List.mem_append_left _ (List.mem_of_getElem? (l := tables_1_2) (i := 153) (by decide +kernel))))) rfl
theorem qi8 : Cond.instantiable "EnemyBread$Sight" 15 ∈ mm_ws := mm_mem (List.mem_append_right _ (List.mem_append_right _ (List.mem_append_left _ (List.mem_of_getElem? (l := tables_1_2) (i := 154) (by decide +kernel))))) rfl
theorem kX11_89 : Cond.methodLinkNest RX11 89 mX8_init.1 "EnemyBread" ∈ mm_nest := mm_memN (List.mem_append_right _ (List.mem_append_right _ (List.mem_append_left _ (List.mem_of_getElem? (l := tables_1_2) (i := 155) (by decide +kernel))))) rfl
theorem kX8_3 : Cond.methodLink RX8 3 Lib.objectInit ∈ mm_ws := mm_mem (List.mem_append_right _ (List.mem_append_right _ (List.mem_append_left _ (List.mem_of_getElem? (l := tables_1_2) (i := 158) (rfl))))) rfl
theorem qL_10 : Cond.classLink RL 10 "EnemyBreadModel" ∈ mm_ws := mm_mem (List.mem_append_right _ (List.mem_append_right _ (List.mem_append_right _ (List.mem_append_right _ (List.mem_append_right _ (List.mem_append_left _ (List.mem_of_getElem? (l := tables_1_5) (i := 237) (by decide +kernel)))))))) rfl
theorem qi12 : Cond.instantiable "EnemyBreadModel" 116 ∈ mm_ws := mm_mem (List.mem_append_right _ (List.mem_append_right _ (List.mem_append_right _ (List.mem_append_right _ (List.mem_append_right _ (List.mem_append_left _ (List.mem_of_getElem? (l := tables_1_5) (i := 238) (by decide +kernel)))))))) rfl
theorem kL_12 : Cond.methodLink RL 12 mX12_init.1 ∈ mm_ws := mm_mem (List.mem_append_right _ (List.mem_append_right _ (List.mem_append_right _ (List.mem_append_right _ (List.mem_append_right _ (List.mem_append_left _ (List.mem_of_getElem? (l := tables_1_5) (i := 239) (by decide +kernel)))))))) rfl
theorem kX12_1 : Cond.methodLink RX12 1 Lib.objectInit ∈ mm_ws := mm_mem (List.mem_append_right _ (List.mem_append_right _ (List.mem_append_right _ (List.mem_append_right _ (List.mem_append_right _ (List.mem_append_right _ (List.mem_append_left _ (List.mem_of_getElem? (l := tables_1_6) (i := 2) (rfl))))))))) rfl
theorem oi_in : Cond.instanceMethod Lib.objectInit ∈ mm_ws := mm_mem (List.mem_append_right _ (List.mem_append_left _ (List.mem_of_getElem? (l := tables_1_1) (i := 28) (rfl)))) rfl
theorem oi_co : Cond.code Lib.objectInit ⟨#[0xb1]⟩ 1 none ∈ mm_ws := mm_mem (List.mem_append_right _ (List.mem_append_left _ (List.mem_of_getElem? (l := tables_1_1) (i := 29) (rfl)))) rfl
theorem qa0 : Cond.arrayClass FieldType.int ∈ mm_ws := mm_mem (List.mem_append_right _ (List.mem_append_left _ (List.mem_of_getElem? (l := tables_1_1) (i := 108) (by decide +kernel)))) rfl
theorem qa1 : Cond.arrayClass FieldType.long ∈ mm_ws := mm_mem (List.mem_append_right _ (List.mem_append_right _ (List.mem_append_left _ (List.mem_of_getElem? (l := tables_1_2) (i := 212) (by decide +kernel))))) rfl
theorem qa2 : Cond.arrayClass FieldType.char ∈ mm_ws := mm_mem (List.mem_append_right _ (List.mem_append_right _ (List.mem_append_right _ (List.mem_append_right _ (List.mem_append_right _ (List.mem_append_right _ (List.mem_append_right _ (List.mem_append_left _ (List.mem_of_getElem? (l := tables_1_7) (i := 112) (by decide +kernel)))))))))) rfl
theorem qa3 : Cond.arrayClass FieldType.boolean ∈ mm_ws := mm_mem (List.mem_append_right _ (List.mem_append_right _ (List.mem_append_right _ (List.mem_append_right _ (List.mem_append_right _ (List.mem_append_right _ (List.mem_append_right _ (List.mem_append_left _ (List.mem_of_getElem? (l := tables_1_7) (i := 113) (by decide +kernel)))))))))) rfl
theorem qk0 : ∀ j, j < 3 → mm_kd (mm_ty 0 j) < 3 := by decide +kernel
theorem qk1 : ∀ j, j < 5 → mm_kd (mm_ty 1 j) < 3 := by decide +kernel
theorem qk2 : ∀ j, j < 3 → mm_kd (mm_ty 2 j) < 3 := by decide +kernel
theorem qk3 : ∀ j, j < 6 → mm_kd (mm_ty 3 j) < 3 := by decide +kernel
theorem qk4 : ∀ j, j < 3 → mm_kd (mm_ty 4 j) < 3 := by decide +kernel
theorem qk5 : ∀ j, j < 4 → mm_kd (mm_ty 5 j) < 3 := by decide +kernel
theorem qk6 : ∀ j, j < 15 → mm_kd (mm_ty 6 j) < 3 := by decide +kernel
theorem qk7 : ∀ j, j < 11 → mm_kd (mm_ty 7 j) < 3 := by decide +kernel
theorem qk8 : ∀ j, j < 15 → mm_kd (mm_ty 8 j) < 3 := by decide +kernel
theorem qk9 : ∀ j, j < 7 → mm_kd (mm_ty 9 j) < 3 := by decide +kernel
theorem qk10 : ∀ j, j < 11 → mm_kd (mm_ty 10 j) < 3 := by decide +kernel
theorem qk11 : ∀ j, j < 19 → mm_kd (mm_ty 11 j) < 3 := by decide +kernel
theorem qk12 : ∀ j, j < 116 → mm_kd (mm_ty 12 j) < 3 := by decide +kernel
set_option maxRecDepth 100000 in
theorem ct_il {d : Nat} {sh : mm_S} {M : mm_M} {Q : Option Value → mm_S → mm_M → Prop} (h : Q (some (.int 45)) sh M) : mm_C mX9_imageLength d 0 0 [.int 7] sh M Q := by
  show mm_W mX9_imageLength d 0 0 0 [(0, .int 7)] [] sh M 0 0 Q
  refine mm_iconst (pc := 0) (x := 2) dX9_imageLength_0 rfl ?_
  refine mm_iconst (pc := 1) (x := 3) dX9_imageLength_1 rfl ?_
  refine mm_iload_n (pc := 2) (j := 0) dX9_imageLength_2 rfl rfl ?_
  refine mm_imul (pc := 3) dX9_imageLength_3 ?_
  refine mm_iadd (pc := 4) dX9_imageLength_4 ?_
  refine mm_iload_n (pc := 5) (j := 0) dX9_imageLength_5 rfl rfl ?_
  refine mm_iload_n (pc := 6) (j := 0) dX9_imageLength_6 rfl rfl ?_
  refine mm_iconst (pc := 7) (x := 1) dX9_imageLength_7 rfl ?_
  refine mm_isub (pc := 8) dX9_imageLength_8 ?_
  refine mm_imul (pc := 9) dX9_imageLength_9 ?_
  refine mm_iconst (pc := 10) (x := 2) dX9_imageLength_10 rfl ?_
  refine mm_idiv (pc := 11) dX9_imageLength_11 (by decide) ?_
  refine mm_iadd (pc := 12) dX9_imageLength_12 ?_
  refine mm_iconst (pc := 13) (x := 1) dX9_imageLength_13 rfl ?_
  refine mm_iadd (pc := 14) dX9_imageLength_14 ?_
  exact mm_iret (pc := 15) dX9_imageLength_15 rfl (Nat.le_refl 0) (Nat.le_refl 0) h
set_option maxRecDepth 100000 in
def mm_IX9_init (a : Nat) (M : mm_M) : mm_M := mm_uR (mm_new (mm_uR (mm_new (mm_uR (mm_new (mm_uR (mm_new M (a + 1)) a 3 (some (a + 1))) (a + 2)) a 4 (some (a + 2))) (a + 3)) a 5 (some (a + 3))) (a + 4)) a 6 (some (a + 4))
set_option maxRecDepth 100000 in
set_option maxHeartbeats 8000000 in
theorem rX9_init {d : Nat} {a : Nat} {M : mm_M} {K : mm_M → Prop} (ha : a ∈ mm_Sts) (h : K (mm_IX9_init a M)) : mm_CT mX9_init (d + 1) 4 118 [.ref a] (a + 1) (a + 5) M K := by
  show mm_W mX9_init (d + 1) 4 118 0 [(0, .ref a)] [] (mm_SH.take (a + 1)) M 0 0 _
  unfold mm_IX9_init at h
  refine mm_aload_n (pc := 0) (j := 0) dX9_init_0 rfl rfl ?_
  refine mm_objInit (pc := 1) dX9_init_1 kX9_3 oi_in oi_co (Nat.le_of_ble_eq_true rfl) ?_
  refine mm_aload_n (pc := 4) (j := 0) dX9_init_4 rfl rfl ?_
  refine mm_bipush (pc := 5) (x := 7) dX9_init_5 rfl ?_
  refine ct_newarr (pc := 7) (c := a + 1) (k := 0) (n := 0) (N := 7) dX9_init_7 rfl (Or.inl ⟨rfl, rfl⟩) qa0 (by decide +kernel) (by decide +kernel) (by decide +kernel) (by decide) (by decide) (sh_St_1 ha) ?_
  refine mm_putR (pc := 9) (ci := 9) (N := 7) dX9_init_9 fX9_9 (ct_sh (sh_St ha) (by omega)) (by decide +kernel) rfl ?_
  refine mm_aload_n (pc := 12) (j := 0) dX9_init_12 rfl rfl ?_
  refine mm_bipush (pc := 13) (x := 7) dX9_init_13 rfl ?_
  refine ct_newarr (pc := 15) (c := a + 2) (k := 1) (n := 7) (N := 7) dX9_init_15 rfl (Or.inl ⟨rfl, rfl⟩) qa0 (by decide +kernel) (by decide +kernel) (by decide +kernel) (by decide) (by decide) (sh_St_2 ha) ?_
  refine mm_putR (pc := 17) (ci := 9) (N := 7) dX9_init_17 fX9_15 (ct_sh (sh_St ha) (by omega)) (by decide +kernel) rfl ?_
  refine mm_aload_n (pc := 20) (j := 0) dX9_init_20 rfl rfl ?_
  refine mm_bipush (pc := 21) (x := 64) dX9_init_21 rfl ?_
  refine ct_newarr (pc := 23) (c := a + 3) (k := 2) (n := 14) (N := 64) dX9_init_23 rfl (Or.inl ⟨rfl, rfl⟩) qa0 (by decide +kernel) (by decide +kernel) (by decide +kernel) (by decide) (by decide) (sh_St_3 ha) ?_
  refine mm_putR (pc := 25) (ci := 9) (N := 7) dX9_init_25 fX9_18 (ct_sh (sh_St ha) (by omega)) (by decide +kernel) rfl ?_
  refine mm_aload_n (pc := 28) (j := 0) dX9_init_28 rfl rfl ?_
  refine mm_bipush (pc := 29) (x := 40) dX9_init_29 rfl ?_
  refine ct_newarr (pc := 31) (c := a + 4) (k := 3) (n := 78) (N := 40) dX9_init_31 rfl (Or.inl ⟨rfl, rfl⟩) qa0 (by decide +kernel) (by decide +kernel) (by decide +kernel) (by decide) (by decide) (sh_St_4 ha) ?_
  refine mm_putR (pc := 33) (ci := 9) (N := 7) dX9_init_33 fX9_21 (ct_sh (sh_St ha) (by omega)) (by decide +kernel) rfl ?_
  exact mm_vret (pc := 36) dX9_init_36 rfl (by decide) (by decide) ⟨rfl, rfl, h⟩
set_option maxRecDepth 100000 in
def mm_IX7_init (a : Nat) (M : mm_M) : mm_M := mm_uR (mm_new (mm_uR (mm_new (mm_uR (mm_new (mm_uR (mm_new (mm_uR (mm_new (mm_uR (mm_new (mm_uR (mm_new M (a + 1)) a 4 (some (a + 1))) (a + 2)) a 5 (some (a + 2))) (a + 3)) a 6 (some (a + 3))) (a + 4)) a 7 (some (a + 4))) (a + 5)) a 8 (some (a + 5))) (a + 6)) a 9 (some (a + 6))) (a + 7)) a 10 (some (a + 7))
set_option maxRecDepth 100000 in
set_option maxHeartbeats 8000000 in
theorem rX7_init {d : Nat} {a : Nat} {M : mm_M} {K : mm_M → Prop} (ha : a ∈ mm_Rls) (h : K (mm_IX7_init a M)) : mm_CT mX7_init (d + 1) 7 1738 [.ref a] (a + 1) (a + 8) M K := by
  show mm_W mX7_init (d + 1) 7 1738 0 [(0, .ref a)] [] (mm_SH.take (a + 1)) M 0 0 _
  unfold mm_IX7_init at h
  refine mm_aload_n (pc := 0) (j := 0) dX7_init_0 rfl rfl ?_
  refine mm_objInit (pc := 1) dX7_init_1 kX7_3 oi_in oi_co (Nat.le_of_ble_eq_true rfl) ?_
  refine mm_aload_n (pc := 4) (j := 0) dX7_init_4 rfl rfl ?_
  refine mm_bipush (pc := 5) (x := 42) dX7_init_5 rfl ?_
  refine ct_newarr (pc := 7) (c := a + 1) (k := 0) (n := 0) (N := 42) dX7_init_7 rfl (Or.inl ⟨rfl, rfl⟩) qa0 (by decide +kernel) (by decide +kernel) (by decide +kernel) (by decide) (by decide) (sh_Rl_1 ha) ?_
  refine mm_putR (pc := 9) (ci := 7) (N := 11) dX7_init_9 fX7_9 (ct_sh (sh_Rl ha) (by omega)) (by decide +kernel) rfl ?_
  refine mm_aload_n (pc := 12) (j := 0) dX7_init_12 rfl rfl ?_
  refine mm_bipush (pc := 13) (x := 7) dX7_init_13 rfl ?_
  refine ct_newarr (pc := 15) (c := a + 2) (k := 1) (n := 42) (N := 7) dX7_init_15 rfl (Or.inl ⟨rfl, rfl⟩) qa0 (by decide +kernel) (by decide +kernel) (by decide +kernel) (by decide) (by decide) (sh_Rl_2 ha) ?_
  refine mm_putR (pc := 17) (ci := 7) (N := 11) dX7_init_17 fX7_15 (ct_sh (sh_Rl ha) (by omega)) (by decide +kernel) rfl ?_
  refine mm_aload_n (pc := 20) (j := 0) dX7_init_20 rfl rfl ?_
  refine mm_bipush (pc := 21) (x := 7) dX7_init_21 rfl ?_
  refine ct_newarr (pc := 23) (c := a + 3) (k := 2) (n := 49) (N := 7) dX7_init_23 rfl (Or.inl ⟨rfl, rfl⟩) qa0 (by decide +kernel) (by decide +kernel) (by decide +kernel) (by decide) (by decide) (sh_Rl_3 ha) ?_
  refine mm_putR (pc := 25) (ci := 7) (N := 11) dX7_init_25 fX7_18 (ct_sh (sh_Rl ha) (by omega)) (by decide +kernel) rfl ?_
  refine mm_aload_n (pc := 28) (j := 0) dX7_init_28 rfl rfl ?_
  refine mm_bipush (pc := 29) (x := 64) dX7_init_29 rfl ?_
  refine ct_newarr (pc := 31) (c := a + 4) (k := 3) (n := 56) (N := 64) dX7_init_31 rfl (Or.inl ⟨rfl, rfl⟩) qa0 (by decide +kernel) (by decide +kernel) (by decide +kernel) (by decide) (by decide) (sh_Rl_4 ha) ?_
  refine mm_putR (pc := 33) (ci := 7) (N := 11) dX7_init_33 fX7_21 (ct_sh (sh_Rl ha) (by omega)) (by decide +kernel) rfl ?_
  refine mm_aload_n (pc := 36) (j := 0) dX7_init_36 rfl rfl ?_
  refine mm_sipush (pc := 37) (x := 1608) dX7_init_37 rfl ?_
  refine ct_newarr (pc := 40) (c := a + 5) (k := 4) (n := 120) (N := 1608) dX7_init_40 rfl (Or.inl ⟨rfl, rfl⟩) qa0 (by decide +kernel) (by decide +kernel) (by decide +kernel) (by decide) (by decide) (sh_Rl_5 ha) ?_
  refine mm_putR (pc := 42) (ci := 7) (N := 11) dX7_init_42 fX7_24 (ct_sh (sh_Rl ha) (by omega)) (by decide +kernel) rfl ?_
  refine mm_aload_n (pc := 45) (j := 0) dX7_init_45 rfl rfl ?_
  refine mm_iconst (pc := 46) (x := 5) dX7_init_46 rfl ?_
  refine ct_newarr (pc := 47) (c := a + 6) (k := 5) (n := 1728) (N := 5) dX7_init_47 rfl (Or.inl ⟨rfl, rfl⟩) qa0 (by decide +kernel) (by decide +kernel) (by decide +kernel) (by decide) (by decide) (sh_Rl_6 ha) ?_
  refine mm_putR (pc := 49) (ci := 7) (N := 11) dX7_init_49 fX7_27 (ct_sh (sh_Rl ha) (by omega)) (by decide +kernel) rfl ?_
  refine mm_aload_n (pc := 52) (j := 0) dX7_init_52 rfl rfl ?_
  refine mm_iconst (pc := 53) (x := 5) dX7_init_53 rfl ?_
  refine ct_newarr (pc := 54) (c := a + 7) (k := 6) (n := 1733) (N := 5) dX7_init_54 rfl (Or.inl ⟨rfl, rfl⟩) qa0 (by decide +kernel) (by decide +kernel) (by decide +kernel) (by decide) (by decide) (sh_Rl_7 ha) ?_
  refine mm_putR (pc := 56) (ci := 7) (N := 11) dX7_init_56 fX7_30 (ct_sh (sh_Rl ha) (by omega)) (by decide +kernel) rfl ?_
  exact mm_vret (pc := 59) dX7_init_59 rfl (by decide) (by decide) ⟨rfl, rfl, h⟩
set_option maxRecDepth 100000 in
def mm_IX6_init (a : Nat) (M : mm_M) : mm_M := mm_uR (mm_new (mm_uR (mm_new M (a + 1)) a 0 (some (a + 1))) (a + 2)) a 13 (some (a + 2))
set_option maxRecDepth 100000 in
set_option maxHeartbeats 8000000 in
theorem rX6_init {d : Nat} {a : Nat} {M : mm_M} {K : mm_M → Prop} (ha : a ∈ mm_Rds) (h : K (mm_IX6_init a M)) : mm_CT mX6_init (d + 1) 2 0 [.ref a] (a + 1) (a + 3) M K := by
  show mm_W mX6_init (d + 1) 2 0 0 [(0, .ref a)] [] (mm_SH.take (a + 1)) M 0 0 _
  unfold mm_IX6_init at h
  refine mm_aload_n (pc := 0) (j := 0) dX6_init_0 rfl rfl ?_
  refine mm_objInit (pc := 1) dX6_init_1 kX6_3 oi_in oi_co (Nat.le_of_ble_eq_true rfl) ?_
  refine mm_aload_n (pc := 4) (j := 0) dX6_init_4 rfl rfl ?_
  refine mm_iconst (pc := 5) (x := 0) dX6_init_5 rfl ?_
  refine ct_newarr (pc := 6) (c := a + 1) (k := 0) (n := 0) (N := 0) dX6_init_6 rfl (Or.inl ⟨rfl, rfl⟩) qa0 (by decide +kernel) (by decide +kernel) (by decide +kernel) (by decide) (by decide) (sh_Rd_1 ha) ?_
  refine mm_putR (pc := 8) (ci := 6) (N := 15) dX6_init_8 fX6_9 (ct_sh (sh_Rd ha) (by omega)) (by decide +kernel) rfl ?_
  refine mm_aload_n (pc := 11) (j := 0) dX6_init_11 rfl rfl ?_
  refine mm_iconst (pc := 12) (x := 0) dX6_init_12 rfl ?_
  refine ct_newarr (pc := 13) (c := a + 2) (k := 1) (n := 0) (N := 0) dX6_init_13 rfl (Or.inl ⟨rfl, rfl⟩) qa0 (by decide +kernel) (by decide +kernel) (by decide +kernel) (by decide) (by decide) (sh_Rd_2 ha) ?_
  refine mm_putR (pc := 15) (ci := 6) (N := 15) dX6_init_15 fX6_15 (ct_sh (sh_Rd ha) (by omega)) (by decide +kernel) rfl ?_
  exact mm_vret (pc := 18) dX6_init_18 rfl (by decide) (by decide) ⟨rfl, rfl, h⟩
set_option maxRecDepth 100000 in
def mm_IX5_init (M : mm_M) : mm_M := mm_uR (mm_new (mm_uR (mm_new (mm_uR (mm_new (mm_uR (mm_new M 31) 30 0 (some 31)) 32) 30 1 (some 32)) 33) 30 2 (some 33)) 34) 30 3 (some 34)
set_option maxRecDepth 100000 in
set_option maxHeartbeats 8000000 in
theorem rX5_init {d : Nat} {M : mm_M} {K : mm_M → Prop} (h : K (mm_IX5_init M)) : mm_CT mX5_init (d + 1) 4 102 [.ref 30] 31 35 M K := by
  show mm_W mX5_init (d + 1) 4 102 0 [(0, .ref 30)] [] (mm_SH.take 31) M 0 0 _
  unfold mm_IX5_init at h
  refine mm_aload_n (pc := 0) (j := 0) dX5_init_0 rfl rfl ?_
  refine mm_objInit (pc := 1) dX5_init_1 kX5_3 oi_in oi_co (Nat.le_of_ble_eq_true rfl) ?_
  refine mm_aload_n (pc := 4) (j := 0) dX5_init_4 rfl rfl ?_
  refine mm_bipush (pc := 5) (x := 24) dX5_init_5 rfl ?_
  refine ct_newarr (pc := 7) (c := 31) (k := 0) (n := 0) (N := 24) dX5_init_7 rfl (Or.inl ⟨rfl, rfl⟩) qa0 (by decide +kernel) (by decide +kernel) (by decide +kernel) (by decide) (by decide) sh_31 ?_
  refine mm_putR (pc := 9) (ci := 5) (N := 4) dX5_init_9 fX5_11 (ct_sh sh_30 (by decide)) (by decide +kernel) rfl ?_
  refine mm_aload_n (pc := 12) (j := 0) dX5_init_12 rfl rfl ?_
  refine mm_bipush (pc := 13) (x := 7) dX5_init_13 rfl ?_
  refine ct_newarr (pc := 15) (c := 32) (k := 1) (n := 24) (N := 7) dX5_init_15 rfl (Or.inl ⟨rfl, rfl⟩) qa0 (by decide +kernel) (by decide +kernel) (by decide +kernel) (by decide) (by decide) sh_32 ?_
  refine mm_putR (pc := 17) (ci := 5) (N := 4) dX5_init_17 fX5_17 (ct_sh sh_30 (by decide)) (by decide +kernel) rfl ?_
  refine mm_aload_n (pc := 20) (j := 0) dX5_init_20 rfl rfl ?_
  refine mm_bipush (pc := 21) (x := 7) dX5_init_21 rfl ?_
  refine ct_newarr (pc := 23) (c := 33) (k := 2) (n := 31) (N := 7) dX5_init_23 rfl (Or.inl ⟨rfl, rfl⟩) qa0 (by decide +kernel) (by decide +kernel) (by decide +kernel) (by decide) (by decide) sh_33 ?_
  refine mm_putR (pc := 25) (ci := 5) (N := 4) dX5_init_25 fX5_20 (ct_sh sh_30 (by decide)) (by decide +kernel) rfl ?_
  refine mm_aload_n (pc := 28) (j := 0) dX5_init_28 rfl rfl ?_
  refine mm_bipush (pc := 29) (x := 64) dX5_init_29 rfl ?_
  refine ct_newarr (pc := 31) (c := 34) (k := 3) (n := 38) (N := 64) dX5_init_31 rfl (Or.inl ⟨rfl, rfl⟩) qa0 (by decide +kernel) (by decide +kernel) (by decide +kernel) (by decide) (by decide) sh_34 ?_
  refine mm_putR (pc := 33) (ci := 5) (N := 4) dX5_init_33 fX5_23 (ct_sh sh_30 (by decide)) (by decide +kernel) rfl ?_
  exact mm_vret (pc := 36) dX5_init_36 rfl (by decide) (by decide) ⟨rfl, rfl, h⟩
set_option maxRecDepth 100000 in
def mm_IX1_init (M : mm_M) : mm_M := mm_uR (mm_new (mm_uR (mm_new (mm_uR (mm_IX5_init (mm_new (mm_uR (mm_IX7_init 22 (mm_new M 22)) 21 0 (some 22)) 30)) 21 1 (some 30)) 35) 21 2 (some 35)) 36) 21 3 (some 36)
set_option maxRecDepth 100000 in
set_option maxHeartbeats 8000000 in
theorem rX1_init {d : Nat} {M : mm_M} {K : mm_M → Prop} (h : K (mm_IX1_init M)) : mm_CT mX1_init (d + 2) 15 1869 [.ref 21] 22 37 M K := by
  show mm_W mX1_init (d + 2) 15 1869 0 [(0, .ref 21)] [] (mm_SH.take 22) M 0 0 _
  unfold mm_IX1_init at h
  refine mm_aload_n (pc := 0) (j := 0) dX1_init_0 rfl rfl ?_
  refine mm_objInit (pc := 1) dX1_init_1 kX1_3 oi_in oi_co (Nat.le_of_ble_eq_true rfl) ?_
  refine mm_aload_n (pc := 4) (j := 0) dX1_init_4 rfl rfl ?_
  refine ct_newo (pc := 5) (c := 22) (k := 0) (n := 0) (ci := 7) (N := 11) dX1_init_5 rfl qX1_9 qi7 qn7 qk7 (by decide) (by decide) sh_22 ?_
  refine mm_dup (pc := 8) dX1_init_8 rfl ?_
  refine ct_callIN (pc := 9) (c := 23) (c' := 30) (k := 1) (n := 11) (mc' := 7) (ms' := 1738) (K := fun m => m = mm_IX7_init 22 (mm_new M 22)) dX1_init_9 kX1_11 bX7_init rfl rfl iX7_init (Nat.le_of_ble_eq_true rfl) (by decide) (by decide) (by decide) (rX7_init (by decide) rfl) (fun m hm => ?_)
  subst hm
  refine mm_putR (pc := 12) (ci := 1) (N := 5) dX1_init_12 fX1_12 (ct_sh sh_21 (by decide)) (by decide +kernel) rfl ?_
  refine mm_aload_n (pc := 15) (j := 0) dX1_init_15 rfl rfl ?_
  refine ct_newo (pc := 16) (c := 30) (k := 8) (n := 1749) (ci := 5) (N := 4) dX1_init_16 rfl qX1_18 qi5 qn5 qk5 (by decide) (by decide) sh_30 ?_
  refine mm_dup (pc := 19) dX1_init_19 rfl ?_
  refine ct_callIN (pc := 20) (c := 31) (c' := 35) (k := 9) (n := 1753) (mc' := 4) (ms' := 102) (K := fun m => m = mm_IX5_init (mm_new (mm_uR (mm_IX7_init 22 (mm_new M 22)) 21 0 (some 22)) 30)) dX1_init_20 kX1_20 bX5_init rfl rfl iX5_init (Nat.le_of_ble_eq_true rfl) (by decide) (by decide) (by decide) (rX5_init rfl) (fun m hm => ?_)
  subst hm
  refine mm_putR (pc := 23) (ci := 1) (N := 5) dX1_init_23 fX1_21 (ct_sh sh_21 (by decide)) (by decide +kernel) rfl ?_
  refine mm_aload_n (pc := 26) (j := 0) dX1_init_26 rfl rfl ?_
  refine mm_bipush (pc := 27) (x := 7) dX1_init_27 rfl ?_
  refine ct_newarr (pc := 29) (c := 35) (k := 13) (n := 1855) (N := 7) dX1_init_29 rfl (Or.inl ⟨rfl, rfl⟩) qa0 (by decide +kernel) (by decide +kernel) (by decide +kernel) (by decide) (by decide) sh_35 ?_
  refine mm_putR (pc := 31) (ci := 1) (N := 5) dX1_init_31 fX1_25 (ct_sh sh_21 (by decide)) (by decide +kernel) rfl ?_
  refine mm_aload_n (pc := 34) (j := 0) dX1_init_34 rfl rfl ?_
  refine mm_bipush (pc := 35) (x := 7) dX1_init_35 rfl ?_
  refine ct_newarr (pc := 37) (c := 36) (k := 14) (n := 1862) (N := 7) dX1_init_37 rfl (Or.inl ⟨rfl, rfl⟩) qa0 (by decide +kernel) (by decide +kernel) (by decide +kernel) (by decide) (by decide) sh_36 ?_
  refine mm_putR (pc := 39) (ci := 1) (N := 5) dX1_init_39 fX1_29 (ct_sh sh_21 (by decide)) (by decide +kernel) rfl ?_
  exact mm_vret (pc := 42) dX1_init_42 rfl (by decide) (by decide) ⟨rfl, rfl, h⟩
set_option maxRecDepth 100000 in
def mm_IX2_init (M : mm_M) : mm_M := mm_uR (mm_IX7_init 8 (mm_new (mm_uR (mm_IX6_init 5 (mm_new M 5)) 4 0 (some 5)) 8)) 4 1 (some 8)
set_option maxRecDepth 100000 in
set_option maxHeartbeats 8000000 in
theorem rX2_init {d : Nat} {M : mm_M} {K : mm_M → Prop} (h : K (mm_IX2_init M)) : mm_CT mX2_init (d + 2) 11 1764 [.ref 4] 5 16 M K := by
  show mm_W mX2_init (d + 2) 11 1764 0 [(0, .ref 4)] [] (mm_SH.take 5) M 0 0 _
  unfold mm_IX2_init at h
  refine mm_aload_n (pc := 0) (j := 0) dX2_init_0 rfl rfl ?_
  refine mm_objInit (pc := 1) dX2_init_1 kX2_7 oi_in oi_co (Nat.le_of_ble_eq_true rfl) ?_
  refine mm_aload_n (pc := 4) (j := 0) dX2_init_4 rfl rfl ?_
  refine ct_newo (pc := 5) (c := 5) (k := 0) (n := 0) (ci := 6) (N := 15) dX2_init_5 rfl qX2_1 qi6 qn6 qk6 (by decide) (by decide) sh_5 ?_
  refine mm_dup (pc := 8) dX2_init_8 rfl ?_
  refine ct_callIN (pc := 9) (c := 6) (c' := 8) (k := 1) (n := 15) (mc' := 2) (ms' := 0) (K := fun m => m = mm_IX6_init 5 (mm_new M 5)) dX2_init_9 kX2_13 bX6_init rfl rfl iX6_init (Nat.le_of_ble_eq_true rfl) (by decide) (by decide) (by decide) (rX6_init (by decide) rfl) (fun m hm => ?_)
  subst hm
  refine mm_putR (pc := 12) (ci := 2) (N := 3) dX2_init_12 fX2_14 (ct_sh sh_4 (by decide)) (by decide +kernel) rfl ?_
  refine mm_aload_n (pc := 15) (j := 0) dX2_init_15 rfl rfl ?_
  refine ct_newo (pc := 16) (c := 8) (k := 3) (n := 15) (ci := 7) (N := 11) dX2_init_16 rfl qX2_18 qi7 qn7 qk7 (by decide) (by decide) sh_8 ?_
  refine mm_dup (pc := 19) dX2_init_19 rfl ?_
  refine ct_callIN (pc := 20) (c := 9) (c' := 16) (k := 4) (n := 26) (mc' := 7) (ms' := 1738) (K := fun m => m = mm_IX7_init 8 (mm_new (mm_uR (mm_IX6_init 5 (mm_new M 5)) 4 0 (some 5)) 8)) dX2_init_20 kX2_20 bX7_init rfl rfl iX7_init (Nat.le_of_ble_eq_true rfl) (by decide) (by decide) (by decide) (rX7_init (by decide) rfl) (fun m hm => ?_)
  subst hm
  refine mm_putR (pc := 23) (ci := 2) (N := 3) dX2_init_23 fX2_21 (ct_sh sh_4 (by decide)) (by decide +kernel) rfl ?_
  exact mm_vret (pc := 26) dX2_init_26 rfl (by decide) (by decide) ⟨rfl, rfl, h⟩
set_option maxRecDepth 100000 in
def mm_IX0_init (M : mm_M) : mm_M := mm_uR (mm_new (mm_uR (mm_IX6_init 17 (mm_new M 17)) 16 0 (some 17)) 20) 16 1 (some 20)
set_option maxRecDepth 100000 in
set_option maxHeartbeats 8000000 in
theorem rX0_init {d : Nat} {M : mm_M} {K : mm_M → Prop} (h : K (mm_IX0_init M)) : mm_CT mX0_init (d + 2) 4 1623 [.ref 16] 17 21 M K := by
  show mm_W mX0_init (d + 2) 4 1623 0 [(0, .ref 16)] [] (mm_SH.take 17) M 0 0 _
  unfold mm_IX0_init at h
  refine mm_aload_n (pc := 0) (j := 0) dX0_init_0 rfl rfl ?_
  refine mm_objInit (pc := 1) dX0_init_1 kX0_7 oi_in oi_co (Nat.le_of_ble_eq_true rfl) ?_
  refine mm_aload_n (pc := 4) (j := 0) dX0_init_4 rfl rfl ?_
  refine ct_newo (pc := 5) (c := 17) (k := 0) (n := 0) (ci := 6) (N := 15) dX0_init_5 rfl qX0_3 qi6 qn6 qk6 (by decide) (by decide) sh_17 ?_
  refine mm_dup (pc := 8) dX0_init_8 rfl ?_
  refine ct_callIN (pc := 9) (c := 18) (c' := 20) (k := 1) (n := 15) (mc' := 2) (ms' := 0) (K := fun m => m = mm_IX6_init 17 (mm_new M 17)) dX0_init_9 kX0_13 bX6_init rfl rfl iX6_init (Nat.le_of_ble_eq_true rfl) (by decide) (by decide) (by decide) (rX6_init (by decide) rfl) (fun m hm => ?_)
  subst hm
  refine mm_putR (pc := 12) (ci := 0) (N := 3) dX0_init_12 fX0_14 (ct_sh sh_16 (by decide)) (by decide +kernel) rfl ?_
  refine mm_aload_n (pc := 15) (j := 0) dX0_init_15 rfl rfl ?_
  refine mm_sipush (pc := 16) (x := 1608) dX0_init_16 rfl ?_
  refine ct_newarr (pc := 19) (c := 20) (k := 3) (n := 15) (N := 1608) dX0_init_19 rfl (Or.inl ⟨rfl, rfl⟩) qa0 (by decide +kernel) (by decide +kernel) (by decide +kernel) (by decide) (by decide) sh_20 ?_
  refine mm_putR (pc := 21) (ci := 0) (N := 3) dX0_init_21 fX0_22 (ct_sh sh_16 (by decide)) (by decide +kernel) rfl ?_
  exact mm_vret (pc := 24) dX0_init_24 rfl (by decide) (by decide) ⟨rfl, rfl, h⟩
set_option maxRecDepth 100000 in
def mm_IX4_init (M : mm_M) : mm_M := mm_uR (mm_IX9_init 144 (mm_new (mm_uR (mm_IX9_init 139 (mm_new (mm_uR (mm_IX9_init 134 (mm_new (mm_uR (mm_IX9_init 129 (mm_new (mm_uR (mm_IX9_init 124 (mm_new (mm_uR (mm_IX9_init 119 (mm_new (mm_uR (mm_IX9_init 114 (mm_new (mm_uR (mm_IX9_init 109 (mm_new (mm_uR (mm_IX9_init 104 (mm_new (mm_uR (mm_IX9_init 99 (mm_new (mm_uR (mm_IX9_init 94 (mm_new (mm_uR (mm_IX9_init 89 (mm_new (mm_uR (mm_IX9_init 84 (mm_new (mm_uR (mm_IX9_init 79 (mm_new (mm_uR (mm_IX9_init 74 (mm_new (mm_uR (mm_IX9_init 69 (mm_new (mm_uR (mm_IX9_init 64 (mm_new (mm_uR (mm_IX9_init 59 (mm_new (mm_uR (mm_IX9_init 54 (mm_new (mm_uR (mm_IX9_init 49 (mm_new (mm_uR (mm_new M 48) 47 0 (some 48)) 49)) 48 (0 : Int32).toNatClampNeg (some 49)) 54)) 48 (1 : Int32).toNatClampNeg (some 54)) 59)) 48 (2 : Int32).toNatClampNeg (some 59)) 64)) 48 (3 : Int32).toNatClampNeg (some 64)) 69)) 48 (4 : Int32).toNatClampNeg (some 69)) 74)) 48 (5 : Int32).toNatClampNeg (some 74)) 79)) 48 (6 : Int32).toNatClampNeg (some 79)) 84)) 48 (7 : Int32).toNatClampNeg (some 84)) 89)) 48 (8 : Int32).toNatClampNeg (some 89)) 94)) 48 (9 : Int32).toNatClampNeg (some 94)) 99)) 48 (10 : Int32).toNatClampNeg (some 99)) 104)) 48 (11 : Int32).toNatClampNeg (some 104)) 109)) 48 (12 : Int32).toNatClampNeg (some 109)) 114)) 48 (13 : Int32).toNatClampNeg (some 114)) 119)) 48 (14 : Int32).toNatClampNeg (some 119)) 124)) 48 (15 : Int32).toNatClampNeg (some 124)) 129)) 48 (16 : Int32).toNatClampNeg (some 129)) 134)) 48 (17 : Int32).toNatClampNeg (some 134)) 139)) 48 (18 : Int32).toNatClampNeg (some 139)) 144)) 48 (19 : Int32).toNatClampNeg (some 144)
set_option maxRecDepth 100000 in
set_option maxHeartbeats 8000000 in
theorem rX4_init {d : Nat} {M : mm_M} {K : mm_M → Prop} (h : K (mm_IX4_init M)) : mm_CT mX4_init (d + 2) 101 2520 [.ref 47] 48 149 M K := by
  show mm_W mX4_init (d + 2) 101 2520 0 [(0, .ref 47)] [] (mm_SH.take 48) M 0 0 _
  unfold mm_IX4_init at h
  refine mm_aload_n (pc := 0) (j := 0) dX4_init_0 rfl rfl ?_
  refine mm_objInit (pc := 1) dX4_init_1 kX4_1 oi_in oi_co (Nat.le_of_ble_eq_true rfl) ?_
  refine mm_aload_n (pc := 4) (j := 0) dX4_init_4 rfl rfl ?_
  refine mm_bipush (pc := 5) (x := 20) dX4_init_5 rfl ?_
  refine ct_newq (pc := 7) (c := 48) (k := 0) (n := 0) (N := 20) dX4_init_7 qX4_9 (by decide +kernel) (by decide +kernel) (by decide) (by decide) (by decide) sh_48 ?_
  refine mm_putR (pc := 10) (ci := 4) (N := 3) dX4_init_10 fX4_11 (ct_sh sh_47 (by decide)) (by decide +kernel) rfl ?_
  refine mm_iconst (pc := 13) (x := 0) dX4_init_13 rfl ?_
  refine mm_istore_n (pc := 14) (lv' := [(1, .int 0), (0, .ref 47)]) dX4_init_14 rfl (by decide) rfl ?_
  refine mm_iload_n (pc := 15) (j := 0) dX4_init_15 rfl rfl ?_
  refine mm_bipush (pc := 16) (x := 20) dX4_init_16 rfl ?_
  refine mm_icmp_ge (pc := 18) (tgt := 40) dX4_init_18 (by decide) (fun hc => absurd hc (by decide)) (fun _ => ?_)
  refine mm_aload_n (pc := 21) (j := 1) dX4_init_21 rfl rfl ?_
  refine mm_getR (pc := 22) (ci := 4) (N := 3) (r := 48) dX4_init_22 fX4_11 (ct_sh sh_47 (by decide)) rfl (by rfl) ?_
  refine mm_iload_n (pc := 25) (j := 0) dX4_init_25 rfl rfl ?_
  refine ct_newo (pc := 26) (c := 49) (k := 1) (n := 20) (ci := 9) (N := 7) dX4_init_26 rfl qX4_9 qi9 qn9 qk9 (by decide) (by decide) sh_49 ?_
  refine mm_dup (pc := 29) dX4_init_29 rfl ?_
  refine ct_callIN (pc := 30) (c := 50) (c' := 54) (k := 2) (n := 27) (mc' := 4) (ms' := 118) (K := fun m => m = mm_IX9_init 49 (mm_new (mm_uR (mm_new M 48) 47 0 (some 48)) 49)) dX4_init_30 kX4_15 bX9_init rfl rfl iX9_init (Nat.le_of_ble_eq_true rfl) (by decide) (by decide) (by decide) (rX9_init (by decide) rfl) (fun m hm => ?_)
  subst hm
  refine ct_aast (pc := 33) (ci := 9) (q := (RX9, TX9, 7)) dX4_init_33 (ct_sh sh_48 (by decide)) (ct_sh sh_49 (by decide)) rfl rfl (mm_vin (k := 0) rfl (by decide) (by decide)) ?_
  refine mm_iinc (pc := 34) (j := 0) (v := 1) (lv' := [(1, .int 1), (0, .ref 47)]) dX4_init_34 rfl rfl (by decide) rfl ?_
  refine mm_goto (pc := 37) (tgt := 15) dX4_init_37 (by decide) ?_
  refine mm_iload_n (pc := 15) (j := 0) dX4_init_15 rfl rfl ?_
  refine mm_bipush (pc := 16) (x := 20) dX4_init_16 rfl ?_
  refine mm_icmp_ge (pc := 18) (tgt := 40) dX4_init_18 (by decide) (fun hc => absurd hc (by decide)) (fun _ => ?_)
  refine mm_aload_n (pc := 21) (j := 1) dX4_init_21 rfl rfl ?_
  refine mm_getR (pc := 22) (ci := 4) (N := 3) (r := 48) dX4_init_22 fX4_11 (ct_sh sh_47 (by decide)) rfl (by rfl) ?_
  refine mm_iload_n (pc := 25) (j := 0) dX4_init_25 rfl rfl ?_
  refine ct_newo (pc := 26) (c := 54) (k := 6) (n := 145) (ci := 9) (N := 7) dX4_init_26 rfl qX4_9 qi9 qn9 qk9 (by decide) (by decide) sh_54 ?_
  refine mm_dup (pc := 29) dX4_init_29 rfl ?_
  refine ct_callIN (pc := 30) (c := 55) (c' := 59) (k := 7) (n := 152) (mc' := 4) (ms' := 118) (K := fun m => m = mm_IX9_init 54 (mm_new (mm_uR (mm_IX9_init 49 (mm_new (mm_uR (mm_new M 48) 47 0 (some 48)) 49)) 48 (0 : Int32).toNatClampNeg (some 49)) 54)) dX4_init_30 kX4_15 bX9_init rfl rfl iX9_init (Nat.le_of_ble_eq_true rfl) (by decide) (by decide) (by decide) (rX9_init (by decide) rfl) (fun m hm => ?_)
  subst hm
  refine ct_aast (pc := 33) (ci := 9) (q := (RX9, TX9, 7)) dX4_init_33 (ct_sh sh_48 (by decide)) (ct_sh sh_54 (by decide)) rfl rfl (mm_vin (k := 1) rfl (by decide) (by decide)) ?_
  refine mm_iinc (pc := 34) (j := 0) (v := 2) (lv' := [(1, .int 2), (0, .ref 47)]) dX4_init_34 rfl rfl (by decide) rfl ?_
  refine mm_goto (pc := 37) (tgt := 15) dX4_init_37 (by decide) ?_
  refine mm_iload_n (pc := 15) (j := 0) dX4_init_15 rfl rfl ?_
  refine mm_bipush (pc := 16) (x := 20) dX4_init_16 rfl ?_
  refine mm_icmp_ge (pc := 18) (tgt := 40) dX4_init_18 (by decide) (fun hc => absurd hc (by decide)) (fun _ => ?_)
  refine mm_aload_n (pc := 21) (j := 1) dX4_init_21 rfl rfl ?_
  refine mm_getR (pc := 22) (ci := 4) (N := 3) (r := 48) dX4_init_22 fX4_11 (ct_sh sh_47 (by decide)) rfl (by rfl) ?_
  refine mm_iload_n (pc := 25) (j := 0) dX4_init_25 rfl rfl ?_
  refine ct_newo (pc := 26) (c := 59) (k := 11) (n := 270) (ci := 9) (N := 7) dX4_init_26 rfl qX4_9 qi9 qn9 qk9 (by decide) (by decide) sh_59 ?_
  refine mm_dup (pc := 29) dX4_init_29 rfl ?_
  refine ct_callIN (pc := 30) (c := 60) (c' := 64) (k := 12) (n := 277) (mc' := 4) (ms' := 118) (K := fun m => m = mm_IX9_init 59 (mm_new (mm_uR (mm_IX9_init 54 (mm_new (mm_uR (mm_IX9_init 49 (mm_new (mm_uR (mm_new M 48) 47 0 (some 48)) 49)) 48 (0 : Int32).toNatClampNeg (some 49)) 54)) 48 (1 : Int32).toNatClampNeg (some 54)) 59)) dX4_init_30 kX4_15 bX9_init rfl rfl iX9_init (Nat.le_of_ble_eq_true rfl) (by decide) (by decide) (by decide) (rX9_init (by decide) rfl) (fun m hm => ?_)
  subst hm
  refine ct_aast (pc := 33) (ci := 9) (q := (RX9, TX9, 7)) dX4_init_33 (ct_sh sh_48 (by decide)) (ct_sh sh_59 (by decide)) rfl rfl (mm_vin (k := 2) rfl (by decide) (by decide)) ?_
  refine mm_iinc (pc := 34) (j := 0) (v := 3) (lv' := [(1, .int 3), (0, .ref 47)]) dX4_init_34 rfl rfl (by decide) rfl ?_
  refine mm_goto (pc := 37) (tgt := 15) dX4_init_37 (by decide) ?_
  refine mm_iload_n (pc := 15) (j := 0) dX4_init_15 rfl rfl ?_
  refine mm_bipush (pc := 16) (x := 20) dX4_init_16 rfl ?_
  refine mm_icmp_ge (pc := 18) (tgt := 40) dX4_init_18 (by decide) (fun hc => absurd hc (by decide)) (fun _ => ?_)
  refine mm_aload_n (pc := 21) (j := 1) dX4_init_21 rfl rfl ?_
  refine mm_getR (pc := 22) (ci := 4) (N := 3) (r := 48) dX4_init_22 fX4_11 (ct_sh sh_47 (by decide)) rfl (by rfl) ?_
  refine mm_iload_n (pc := 25) (j := 0) dX4_init_25 rfl rfl ?_
  refine ct_newo (pc := 26) (c := 64) (k := 16) (n := 395) (ci := 9) (N := 7) dX4_init_26 rfl qX4_9 qi9 qn9 qk9 (by decide) (by decide) sh_64 ?_
  refine mm_dup (pc := 29) dX4_init_29 rfl ?_
  refine ct_callIN (pc := 30) (c := 65) (c' := 69) (k := 17) (n := 402) (mc' := 4) (ms' := 118) (K := fun m => m = mm_IX9_init 64 (mm_new (mm_uR (mm_IX9_init 59 (mm_new (mm_uR (mm_IX9_init 54 (mm_new (mm_uR (mm_IX9_init 49 (mm_new (mm_uR (mm_new M 48) 47 0 (some 48)) 49)) 48 (0 : Int32).toNatClampNeg (some 49)) 54)) 48 (1 : Int32).toNatClampNeg (some 54)) 59)) 48 (2 : Int32).toNatClampNeg (some 59)) 64)) dX4_init_30 kX4_15 bX9_init rfl rfl iX9_init (Nat.le_of_ble_eq_true rfl) (by decide) (by decide) (by decide) (rX9_init (by decide) rfl) (fun m hm => ?_)
  subst hm
  refine ct_aast (pc := 33) (ci := 9) (q := (RX9, TX9, 7)) dX4_init_33 (ct_sh sh_48 (by decide)) (ct_sh sh_64 (by decide)) rfl rfl (mm_vin (k := 3) rfl (by decide) (by decide)) ?_
  refine mm_iinc (pc := 34) (j := 0) (v := 4) (lv' := [(1, .int 4), (0, .ref 47)]) dX4_init_34 rfl rfl (by decide) rfl ?_
  refine mm_goto (pc := 37) (tgt := 15) dX4_init_37 (by decide) ?_
  refine mm_iload_n (pc := 15) (j := 0) dX4_init_15 rfl rfl ?_
  refine mm_bipush (pc := 16) (x := 20) dX4_init_16 rfl ?_
  refine mm_icmp_ge (pc := 18) (tgt := 40) dX4_init_18 (by decide) (fun hc => absurd hc (by decide)) (fun _ => ?_)
  refine mm_aload_n (pc := 21) (j := 1) dX4_init_21 rfl rfl ?_
  refine mm_getR (pc := 22) (ci := 4) (N := 3) (r := 48) dX4_init_22 fX4_11 (ct_sh sh_47 (by decide)) rfl (by rfl) ?_
  refine mm_iload_n (pc := 25) (j := 0) dX4_init_25 rfl rfl ?_
  refine ct_newo (pc := 26) (c := 69) (k := 21) (n := 520) (ci := 9) (N := 7) dX4_init_26 rfl qX4_9 qi9 qn9 qk9 (by decide) (by decide) sh_69 ?_
  refine mm_dup (pc := 29) dX4_init_29 rfl ?_
  refine ct_callIN (pc := 30) (c := 70) (c' := 74) (k := 22) (n := 527) (mc' := 4) (ms' := 118) (K := fun m => m = mm_IX9_init 69 (mm_new (mm_uR (mm_IX9_init 64 (mm_new (mm_uR (mm_IX9_init 59 (mm_new (mm_uR (mm_IX9_init 54 (mm_new (mm_uR (mm_IX9_init 49 (mm_new (mm_uR (mm_new M 48) 47 0 (some 48)) 49)) 48 (0 : Int32).toNatClampNeg (some 49)) 54)) 48 (1 : Int32).toNatClampNeg (some 54)) 59)) 48 (2 : Int32).toNatClampNeg (some 59)) 64)) 48 (3 : Int32).toNatClampNeg (some 64)) 69)) dX4_init_30 kX4_15 bX9_init rfl rfl iX9_init (Nat.le_of_ble_eq_true rfl) (by decide) (by decide) (by decide) (rX9_init (by decide) rfl) (fun m hm => ?_)
  subst hm
  refine ct_aast (pc := 33) (ci := 9) (q := (RX9, TX9, 7)) dX4_init_33 (ct_sh sh_48 (by decide)) (ct_sh sh_69 (by decide)) rfl rfl (mm_vin (k := 4) rfl (by decide) (by decide)) ?_
  refine mm_iinc (pc := 34) (j := 0) (v := 5) (lv' := [(1, .int 5), (0, .ref 47)]) dX4_init_34 rfl rfl (by decide) rfl ?_
  refine mm_goto (pc := 37) (tgt := 15) dX4_init_37 (by decide) ?_
  refine mm_iload_n (pc := 15) (j := 0) dX4_init_15 rfl rfl ?_
  refine mm_bipush (pc := 16) (x := 20) dX4_init_16 rfl ?_
  refine mm_icmp_ge (pc := 18) (tgt := 40) dX4_init_18 (by decide) (fun hc => absurd hc (by decide)) (fun _ => ?_)
  refine mm_aload_n (pc := 21) (j := 1) dX4_init_21 rfl rfl ?_
  refine mm_getR (pc := 22) (ci := 4) (N := 3) (r := 48) dX4_init_22 fX4_11 (ct_sh sh_47 (by decide)) rfl (by rfl) ?_
  refine mm_iload_n (pc := 25) (j := 0) dX4_init_25 rfl rfl ?_
  refine ct_newo (pc := 26) (c := 74) (k := 26) (n := 645) (ci := 9) (N := 7) dX4_init_26 rfl qX4_9 qi9 qn9 qk9 (by decide) (by decide) sh_74 ?_
  refine mm_dup (pc := 29) dX4_init_29 rfl ?_
  refine ct_callIN (pc := 30) (c := 75) (c' := 79) (k := 27) (n := 652) (mc' := 4) (ms' := 118) (K := fun m => m = mm_IX9_init 74 (mm_new (mm_uR (mm_IX9_init 69 (mm_new (mm_uR (mm_IX9_init 64 (mm_new (mm_uR (mm_IX9_init 59 (mm_new (mm_uR (mm_IX9_init 54 (mm_new (mm_uR (mm_IX9_init 49 (mm_new (mm_uR (mm_new M 48) 47 0 (some 48)) 49)) 48 (0 : Int32).toNatClampNeg (some 49)) 54)) 48 (1 : Int32).toNatClampNeg (some 54)) 59)) 48 (2 : Int32).toNatClampNeg (some 59)) 64)) 48 (3 : Int32).toNatClampNeg (some 64)) 69)) 48 (4 : Int32).toNatClampNeg (some 69)) 74)) dX4_init_30 kX4_15 bX9_init rfl rfl iX9_init (Nat.le_of_ble_eq_true rfl) (by decide) (by decide) (by decide) (rX9_init (by decide) rfl) (fun m hm => ?_)
  subst hm
  refine ct_aast (pc := 33) (ci := 9) (q := (RX9, TX9, 7)) dX4_init_33 (ct_sh sh_48 (by decide)) (ct_sh sh_74 (by decide)) rfl rfl (mm_vin (k := 5) rfl (by decide) (by decide)) ?_
  refine mm_iinc (pc := 34) (j := 0) (v := 6) (lv' := [(1, .int 6), (0, .ref 47)]) dX4_init_34 rfl rfl (by decide) rfl ?_
  refine mm_goto (pc := 37) (tgt := 15) dX4_init_37 (by decide) ?_
  refine mm_iload_n (pc := 15) (j := 0) dX4_init_15 rfl rfl ?_
  refine mm_bipush (pc := 16) (x := 20) dX4_init_16 rfl ?_
  refine mm_icmp_ge (pc := 18) (tgt := 40) dX4_init_18 (by decide) (fun hc => absurd hc (by decide)) (fun _ => ?_)
  refine mm_aload_n (pc := 21) (j := 1) dX4_init_21 rfl rfl ?_
  refine mm_getR (pc := 22) (ci := 4) (N := 3) (r := 48) dX4_init_22 fX4_11 (ct_sh sh_47 (by decide)) rfl (by rfl) ?_
  refine mm_iload_n (pc := 25) (j := 0) dX4_init_25 rfl rfl ?_
  refine ct_newo (pc := 26) (c := 79) (k := 31) (n := 770) (ci := 9) (N := 7) dX4_init_26 rfl qX4_9 qi9 qn9 qk9 (by decide) (by decide) sh_79 ?_
  refine mm_dup (pc := 29) dX4_init_29 rfl ?_
  refine ct_callIN (pc := 30) (c := 80) (c' := 84) (k := 32) (n := 777) (mc' := 4) (ms' := 118) (K := fun m => m = mm_IX9_init 79 (mm_new (mm_uR (mm_IX9_init 74 (mm_new (mm_uR (mm_IX9_init 69 (mm_new (mm_uR (mm_IX9_init 64 (mm_new (mm_uR (mm_IX9_init 59 (mm_new (mm_uR (mm_IX9_init 54 (mm_new (mm_uR (mm_IX9_init 49 (mm_new (mm_uR (mm_new M 48) 47 0 (some 48)) 49)) 48 (0 : Int32).toNatClampNeg (some 49)) 54)) 48 (1 : Int32).toNatClampNeg (some 54)) 59)) 48 (2 : Int32).toNatClampNeg (some 59)) 64)) 48 (3 : Int32).toNatClampNeg (some 64)) 69)) 48 (4 : Int32).toNatClampNeg (some 69)) 74)) 48 (5 : Int32).toNatClampNeg (some 74)) 79)) dX4_init_30 kX4_15 bX9_init rfl rfl iX9_init (Nat.le_of_ble_eq_true rfl) (by decide) (by decide) (by decide) (rX9_init (by decide) rfl) (fun m hm => ?_)
  subst hm
  refine ct_aast (pc := 33) (ci := 9) (q := (RX9, TX9, 7)) dX4_init_33 (ct_sh sh_48 (by decide)) (ct_sh sh_79 (by decide)) rfl rfl (mm_vin (k := 6) rfl (by decide) (by decide)) ?_
  refine mm_iinc (pc := 34) (j := 0) (v := 7) (lv' := [(1, .int 7), (0, .ref 47)]) dX4_init_34 rfl rfl (by decide) rfl ?_
  refine mm_goto (pc := 37) (tgt := 15) dX4_init_37 (by decide) ?_
  refine mm_iload_n (pc := 15) (j := 0) dX4_init_15 rfl rfl ?_
  refine mm_bipush (pc := 16) (x := 20) dX4_init_16 rfl ?_
  refine mm_icmp_ge (pc := 18) (tgt := 40) dX4_init_18 (by decide) (fun hc => absurd hc (by decide)) (fun _ => ?_)
  refine mm_aload_n (pc := 21) (j := 1) dX4_init_21 rfl rfl ?_
  refine mm_getR (pc := 22) (ci := 4) (N := 3) (r := 48) dX4_init_22 fX4_11 (ct_sh sh_47 (by decide)) rfl (by rfl) ?_
  refine mm_iload_n (pc := 25) (j := 0) dX4_init_25 rfl rfl ?_
  refine ct_newo (pc := 26) (c := 84) (k := 36) (n := 895) (ci := 9) (N := 7) dX4_init_26 rfl qX4_9 qi9 qn9 qk9 (by decide) (by decide) sh_84 ?_
  refine mm_dup (pc := 29) dX4_init_29 rfl ?_
  refine ct_callIN (pc := 30) (c := 85) (c' := 89) (k := 37) (n := 902) (mc' := 4) (ms' := 118) (K := fun m => m = mm_IX9_init 84 (mm_new (mm_uR (mm_IX9_init 79 (mm_new (mm_uR (mm_IX9_init 74 (mm_new (mm_uR (mm_IX9_init 69 (mm_new (mm_uR (mm_IX9_init 64 (mm_new (mm_uR (mm_IX9_init 59 (mm_new (mm_uR (mm_IX9_init 54 (mm_new (mm_uR (mm_IX9_init 49 (mm_new (mm_uR (mm_new M 48) 47 0 (some 48)) 49)) 48 (0 : Int32).toNatClampNeg (some 49)) 54)) 48 (1 : Int32).toNatClampNeg (some 54)) 59)) 48 (2 : Int32).toNatClampNeg (some 59)) 64)) 48 (3 : Int32).toNatClampNeg (some 64)) 69)) 48 (4 : Int32).toNatClampNeg (some 69)) 74)) 48 (5 : Int32).toNatClampNeg (some 74)) 79)) 48 (6 : Int32).toNatClampNeg (some 79)) 84)) dX4_init_30 kX4_15 bX9_init rfl rfl iX9_init (Nat.le_of_ble_eq_true rfl) (by decide) (by decide) (by decide) (rX9_init (by decide) rfl) (fun m hm => ?_)
  subst hm
  refine ct_aast (pc := 33) (ci := 9) (q := (RX9, TX9, 7)) dX4_init_33 (ct_sh sh_48 (by decide)) (ct_sh sh_84 (by decide)) rfl rfl (mm_vin (k := 7) rfl (by decide) (by decide)) ?_
  refine mm_iinc (pc := 34) (j := 0) (v := 8) (lv' := [(1, .int 8), (0, .ref 47)]) dX4_init_34 rfl rfl (by decide) rfl ?_
  refine mm_goto (pc := 37) (tgt := 15) dX4_init_37 (by decide) ?_
  refine mm_iload_n (pc := 15) (j := 0) dX4_init_15 rfl rfl ?_
  refine mm_bipush (pc := 16) (x := 20) dX4_init_16 rfl ?_
  refine mm_icmp_ge (pc := 18) (tgt := 40) dX4_init_18 (by decide) (fun hc => absurd hc (by decide)) (fun _ => ?_)
  refine mm_aload_n (pc := 21) (j := 1) dX4_init_21 rfl rfl ?_
  refine mm_getR (pc := 22) (ci := 4) (N := 3) (r := 48) dX4_init_22 fX4_11 (ct_sh sh_47 (by decide)) rfl (by rfl) ?_
  refine mm_iload_n (pc := 25) (j := 0) dX4_init_25 rfl rfl ?_
  refine ct_newo (pc := 26) (c := 89) (k := 41) (n := 1020) (ci := 9) (N := 7) dX4_init_26 rfl qX4_9 qi9 qn9 qk9 (by decide) (by decide) sh_89 ?_
  refine mm_dup (pc := 29) dX4_init_29 rfl ?_
  refine ct_callIN (pc := 30) (c := 90) (c' := 94) (k := 42) (n := 1027) (mc' := 4) (ms' := 118) (K := fun m => m = mm_IX9_init 89 (mm_new (mm_uR (mm_IX9_init 84 (mm_new (mm_uR (mm_IX9_init 79 (mm_new (mm_uR (mm_IX9_init 74 (mm_new (mm_uR (mm_IX9_init 69 (mm_new (mm_uR (mm_IX9_init 64 (mm_new (mm_uR (mm_IX9_init 59 (mm_new (mm_uR (mm_IX9_init 54 (mm_new (mm_uR (mm_IX9_init 49 (mm_new (mm_uR (mm_new M 48) 47 0 (some 48)) 49)) 48 (0 : Int32).toNatClampNeg (some 49)) 54)) 48 (1 : Int32).toNatClampNeg (some 54)) 59)) 48 (2 : Int32).toNatClampNeg (some 59)) 64)) 48 (3 : Int32).toNatClampNeg (some 64)) 69)) 48 (4 : Int32).toNatClampNeg (some 69)) 74)) 48 (5 : Int32).toNatClampNeg (some 74)) 79)) 48 (6 : Int32).toNatClampNeg (some 79)) 84)) 48 (7 : Int32).toNatClampNeg (some 84)) 89)) dX4_init_30 kX4_15 bX9_init rfl rfl iX9_init (Nat.le_of_ble_eq_true rfl) (by decide) (by decide) (by decide) (rX9_init (by decide) rfl) (fun m hm => ?_)
  subst hm
  refine ct_aast (pc := 33) (ci := 9) (q := (RX9, TX9, 7)) dX4_init_33 (ct_sh sh_48 (by decide)) (ct_sh sh_89 (by decide)) rfl rfl (mm_vin (k := 8) rfl (by decide) (by decide)) ?_
  refine mm_iinc (pc := 34) (j := 0) (v := 9) (lv' := [(1, .int 9), (0, .ref 47)]) dX4_init_34 rfl rfl (by decide) rfl ?_
  refine mm_goto (pc := 37) (tgt := 15) dX4_init_37 (by decide) ?_
  refine mm_iload_n (pc := 15) (j := 0) dX4_init_15 rfl rfl ?_
  refine mm_bipush (pc := 16) (x := 20) dX4_init_16 rfl ?_
  refine mm_icmp_ge (pc := 18) (tgt := 40) dX4_init_18 (by decide) (fun hc => absurd hc (by decide)) (fun _ => ?_)
  refine mm_aload_n (pc := 21) (j := 1) dX4_init_21 rfl rfl ?_
  refine mm_getR (pc := 22) (ci := 4) (N := 3) (r := 48) dX4_init_22 fX4_11 (ct_sh sh_47 (by decide)) rfl (by rfl) ?_
  refine mm_iload_n (pc := 25) (j := 0) dX4_init_25 rfl rfl ?_
  refine ct_newo (pc := 26) (c := 94) (k := 46) (n := 1145) (ci := 9) (N := 7) dX4_init_26 rfl qX4_9 qi9 qn9 qk9 (by decide) (by decide) sh_94 ?_
  refine mm_dup (pc := 29) dX4_init_29 rfl ?_
  refine ct_callIN (pc := 30) (c := 95) (c' := 99) (k := 47) (n := 1152) (mc' := 4) (ms' := 118) (K := fun m => m = mm_IX9_init 94 (mm_new (mm_uR (mm_IX9_init 89 (mm_new (mm_uR (mm_IX9_init 84 (mm_new (mm_uR (mm_IX9_init 79 (mm_new (mm_uR (mm_IX9_init 74 (mm_new (mm_uR (mm_IX9_init 69 (mm_new (mm_uR (mm_IX9_init 64 (mm_new (mm_uR (mm_IX9_init 59 (mm_new (mm_uR (mm_IX9_init 54 (mm_new (mm_uR (mm_IX9_init 49 (mm_new (mm_uR (mm_new M 48) 47 0 (some 48)) 49)) 48 (0 : Int32).toNatClampNeg (some 49)) 54)) 48 (1 : Int32).toNatClampNeg (some 54)) 59)) 48 (2 : Int32).toNatClampNeg (some 59)) 64)) 48 (3 : Int32).toNatClampNeg (some 64)) 69)) 48 (4 : Int32).toNatClampNeg (some 69)) 74)) 48 (5 : Int32).toNatClampNeg (some 74)) 79)) 48 (6 : Int32).toNatClampNeg (some 79)) 84)) 48 (7 : Int32).toNatClampNeg (some 84)) 89)) 48 (8 : Int32).toNatClampNeg (some 89)) 94)) dX4_init_30 kX4_15 bX9_init rfl rfl iX9_init (Nat.le_of_ble_eq_true rfl) (by decide) (by decide) (by decide) (rX9_init (by decide) rfl) (fun m hm => ?_)
  subst hm
  refine ct_aast (pc := 33) (ci := 9) (q := (RX9, TX9, 7)) dX4_init_33 (ct_sh sh_48 (by decide)) (ct_sh sh_94 (by decide)) rfl rfl (mm_vin (k := 9) rfl (by decide) (by decide)) ?_
  refine mm_iinc (pc := 34) (j := 0) (v := 10) (lv' := [(1, .int 10), (0, .ref 47)]) dX4_init_34 rfl rfl (by decide) rfl ?_
  refine mm_goto (pc := 37) (tgt := 15) dX4_init_37 (by decide) ?_
  refine mm_iload_n (pc := 15) (j := 0) dX4_init_15 rfl rfl ?_
  refine mm_bipush (pc := 16) (x := 20) dX4_init_16 rfl ?_
  refine mm_icmp_ge (pc := 18) (tgt := 40) dX4_init_18 (by decide) (fun hc => absurd hc (by decide)) (fun _ => ?_)
  refine mm_aload_n (pc := 21) (j := 1) dX4_init_21 rfl rfl ?_
  refine mm_getR (pc := 22) (ci := 4) (N := 3) (r := 48) dX4_init_22 fX4_11 (ct_sh sh_47 (by decide)) rfl (by rfl) ?_
  refine mm_iload_n (pc := 25) (j := 0) dX4_init_25 rfl rfl ?_
  refine ct_newo (pc := 26) (c := 99) (k := 51) (n := 1270) (ci := 9) (N := 7) dX4_init_26 rfl qX4_9 qi9 qn9 qk9 (by decide) (by decide) sh_99 ?_
  refine mm_dup (pc := 29) dX4_init_29 rfl ?_
  refine ct_callIN (pc := 30) (c := 100) (c' := 104) (k := 52) (n := 1277) (mc' := 4) (ms' := 118) (K := fun m => m = mm_IX9_init 99 (mm_new (mm_uR (mm_IX9_init 94 (mm_new (mm_uR (mm_IX9_init 89 (mm_new (mm_uR (mm_IX9_init 84 (mm_new (mm_uR (mm_IX9_init 79 (mm_new (mm_uR (mm_IX9_init 74 (mm_new (mm_uR (mm_IX9_init 69 (mm_new (mm_uR (mm_IX9_init 64 (mm_new (mm_uR (mm_IX9_init 59 (mm_new (mm_uR (mm_IX9_init 54 (mm_new (mm_uR (mm_IX9_init 49 (mm_new (mm_uR (mm_new M 48) 47 0 (some 48)) 49)) 48 (0 : Int32).toNatClampNeg (some 49)) 54)) 48 (1 : Int32).toNatClampNeg (some 54)) 59)) 48 (2 : Int32).toNatClampNeg (some 59)) 64)) 48 (3 : Int32).toNatClampNeg (some 64)) 69)) 48 (4 : Int32).toNatClampNeg (some 69)) 74)) 48 (5 : Int32).toNatClampNeg (some 74)) 79)) 48 (6 : Int32).toNatClampNeg (some 79)) 84)) 48 (7 : Int32).toNatClampNeg (some 84)) 89)) 48 (8 : Int32).toNatClampNeg (some 89)) 94)) 48 (9 : Int32).toNatClampNeg (some 94)) 99)) dX4_init_30 kX4_15 bX9_init rfl rfl iX9_init (Nat.le_of_ble_eq_true rfl) (by decide) (by decide) (by decide) (rX9_init (by decide) rfl) (fun m hm => ?_)
  subst hm
  refine ct_aast (pc := 33) (ci := 9) (q := (RX9, TX9, 7)) dX4_init_33 (ct_sh sh_48 (by decide)) (ct_sh sh_99 (by decide)) rfl rfl (mm_vin (k := 10) rfl (by decide) (by decide)) ?_
  refine mm_iinc (pc := 34) (j := 0) (v := 11) (lv' := [(1, .int 11), (0, .ref 47)]) dX4_init_34 rfl rfl (by decide) rfl ?_
  refine mm_goto (pc := 37) (tgt := 15) dX4_init_37 (by decide) ?_
  refine mm_iload_n (pc := 15) (j := 0) dX4_init_15 rfl rfl ?_
  refine mm_bipush (pc := 16) (x := 20) dX4_init_16 rfl ?_
  refine mm_icmp_ge (pc := 18) (tgt := 40) dX4_init_18 (by decide) (fun hc => absurd hc (by decide)) (fun _ => ?_)
  refine mm_aload_n (pc := 21) (j := 1) dX4_init_21 rfl rfl ?_
  refine mm_getR (pc := 22) (ci := 4) (N := 3) (r := 48) dX4_init_22 fX4_11 (ct_sh sh_47 (by decide)) rfl (by rfl) ?_
  refine mm_iload_n (pc := 25) (j := 0) dX4_init_25 rfl rfl ?_
  refine ct_newo (pc := 26) (c := 104) (k := 56) (n := 1395) (ci := 9) (N := 7) dX4_init_26 rfl qX4_9 qi9 qn9 qk9 (by decide) (by decide) sh_104 ?_
  refine mm_dup (pc := 29) dX4_init_29 rfl ?_
  refine ct_callIN (pc := 30) (c := 105) (c' := 109) (k := 57) (n := 1402) (mc' := 4) (ms' := 118) (K := fun m => m = mm_IX9_init 104 (mm_new (mm_uR (mm_IX9_init 99 (mm_new (mm_uR (mm_IX9_init 94 (mm_new (mm_uR (mm_IX9_init 89 (mm_new (mm_uR (mm_IX9_init 84 (mm_new (mm_uR (mm_IX9_init 79 (mm_new (mm_uR (mm_IX9_init 74 (mm_new (mm_uR (mm_IX9_init 69 (mm_new (mm_uR (mm_IX9_init 64 (mm_new (mm_uR (mm_IX9_init 59 (mm_new (mm_uR (mm_IX9_init 54 (mm_new (mm_uR (mm_IX9_init 49 (mm_new (mm_uR (mm_new M 48) 47 0 (some 48)) 49)) 48 (0 : Int32).toNatClampNeg (some 49)) 54)) 48 (1 : Int32).toNatClampNeg (some 54)) 59)) 48 (2 : Int32).toNatClampNeg (some 59)) 64)) 48 (3 : Int32).toNatClampNeg (some 64)) 69)) 48 (4 : Int32).toNatClampNeg (some 69)) 74)) 48 (5 : Int32).toNatClampNeg (some 74)) 79)) 48 (6 : Int32).toNatClampNeg (some 79)) 84)) 48 (7 : Int32).toNatClampNeg (some 84)) 89)) 48 (8 : Int32).toNatClampNeg (some 89)) 94)) 48 (9 : Int32).toNatClampNeg (some 94)) 99)) 48 (10 : Int32).toNatClampNeg (some 99)) 104)) dX4_init_30 kX4_15 bX9_init rfl rfl iX9_init (Nat.le_of_ble_eq_true rfl) (by decide) (by decide) (by decide) (rX9_init (by decide) rfl) (fun m hm => ?_)
  subst hm
  refine ct_aast (pc := 33) (ci := 9) (q := (RX9, TX9, 7)) dX4_init_33 (ct_sh sh_48 (by decide)) (ct_sh sh_104 (by decide)) rfl rfl (mm_vin (k := 11) rfl (by decide) (by decide)) ?_
  refine mm_iinc (pc := 34) (j := 0) (v := 12) (lv' := [(1, .int 12), (0, .ref 47)]) dX4_init_34 rfl rfl (by decide) rfl ?_
  refine mm_goto (pc := 37) (tgt := 15) dX4_init_37 (by decide) ?_
  refine mm_iload_n (pc := 15) (j := 0) dX4_init_15 rfl rfl ?_
  refine mm_bipush (pc := 16) (x := 20) dX4_init_16 rfl ?_
  refine mm_icmp_ge (pc := 18) (tgt := 40) dX4_init_18 (by decide) (fun hc => absurd hc (by decide)) (fun _ => ?_)
  refine mm_aload_n (pc := 21) (j := 1) dX4_init_21 rfl rfl ?_
  refine mm_getR (pc := 22) (ci := 4) (N := 3) (r := 48) dX4_init_22 fX4_11 (ct_sh sh_47 (by decide)) rfl (by rfl) ?_
  refine mm_iload_n (pc := 25) (j := 0) dX4_init_25 rfl rfl ?_
  refine ct_newo (pc := 26) (c := 109) (k := 61) (n := 1520) (ci := 9) (N := 7) dX4_init_26 rfl qX4_9 qi9 qn9 qk9 (by decide) (by decide) sh_109 ?_
  refine mm_dup (pc := 29) dX4_init_29 rfl ?_
  refine ct_callIN (pc := 30) (c := 110) (c' := 114) (k := 62) (n := 1527) (mc' := 4) (ms' := 118) (K := fun m => m = mm_IX9_init 109 (mm_new (mm_uR (mm_IX9_init 104 (mm_new (mm_uR (mm_IX9_init 99 (mm_new (mm_uR (mm_IX9_init 94 (mm_new (mm_uR (mm_IX9_init 89 (mm_new (mm_uR (mm_IX9_init 84 (mm_new (mm_uR (mm_IX9_init 79 (mm_new (mm_uR (mm_IX9_init 74 (mm_new (mm_uR (mm_IX9_init 69 (mm_new (mm_uR (mm_IX9_init 64 (mm_new (mm_uR (mm_IX9_init 59 (mm_new (mm_uR (mm_IX9_init 54 (mm_new (mm_uR (mm_IX9_init 49 (mm_new (mm_uR (mm_new M 48) 47 0 (some 48)) 49)) 48 (0 : Int32).toNatClampNeg (some 49)) 54)) 48 (1 : Int32).toNatClampNeg (some 54)) 59)) 48 (2 : Int32).toNatClampNeg (some 59)) 64)) 48 (3 : Int32).toNatClampNeg (some 64)) 69)) 48 (4 : Int32).toNatClampNeg (some 69)) 74)) 48 (5 : Int32).toNatClampNeg (some 74)) 79)) 48 (6 : Int32).toNatClampNeg (some 79)) 84)) 48 (7 : Int32).toNatClampNeg (some 84)) 89)) 48 (8 : Int32).toNatClampNeg (some 89)) 94)) 48 (9 : Int32).toNatClampNeg (some 94)) 99)) 48 (10 : Int32).toNatClampNeg (some 99)) 104)) 48 (11 : Int32).toNatClampNeg (some 104)) 109)) dX4_init_30 kX4_15 bX9_init rfl rfl iX9_init (Nat.le_of_ble_eq_true rfl) (by decide) (by decide) (by decide) (rX9_init (by decide) rfl) (fun m hm => ?_)
  subst hm
  refine ct_aast (pc := 33) (ci := 9) (q := (RX9, TX9, 7)) dX4_init_33 (ct_sh sh_48 (by decide)) (ct_sh sh_109 (by decide)) rfl rfl (mm_vin (k := 12) rfl (by decide) (by decide)) ?_
  refine mm_iinc (pc := 34) (j := 0) (v := 13) (lv' := [(1, .int 13), (0, .ref 47)]) dX4_init_34 rfl rfl (by decide) rfl ?_
  refine mm_goto (pc := 37) (tgt := 15) dX4_init_37 (by decide) ?_
  refine mm_iload_n (pc := 15) (j := 0) dX4_init_15 rfl rfl ?_
  refine mm_bipush (pc := 16) (x := 20) dX4_init_16 rfl ?_
  refine mm_icmp_ge (pc := 18) (tgt := 40) dX4_init_18 (by decide) (fun hc => absurd hc (by decide)) (fun _ => ?_)
  refine mm_aload_n (pc := 21) (j := 1) dX4_init_21 rfl rfl ?_
  refine mm_getR (pc := 22) (ci := 4) (N := 3) (r := 48) dX4_init_22 fX4_11 (ct_sh sh_47 (by decide)) rfl (by rfl) ?_
  refine mm_iload_n (pc := 25) (j := 0) dX4_init_25 rfl rfl ?_
  refine ct_newo (pc := 26) (c := 114) (k := 66) (n := 1645) (ci := 9) (N := 7) dX4_init_26 rfl qX4_9 qi9 qn9 qk9 (by decide) (by decide) sh_114 ?_
  refine mm_dup (pc := 29) dX4_init_29 rfl ?_
  refine ct_callIN (pc := 30) (c := 115) (c' := 119) (k := 67) (n := 1652) (mc' := 4) (ms' := 118) (K := fun m => m = mm_IX9_init 114 (mm_new (mm_uR (mm_IX9_init 109 (mm_new (mm_uR (mm_IX9_init 104 (mm_new (mm_uR (mm_IX9_init 99 (mm_new (mm_uR (mm_IX9_init 94 (mm_new (mm_uR (mm_IX9_init 89 (mm_new (mm_uR (mm_IX9_init 84 (mm_new (mm_uR (mm_IX9_init 79 (mm_new (mm_uR (mm_IX9_init 74 (mm_new (mm_uR (mm_IX9_init 69 (mm_new (mm_uR (mm_IX9_init 64 (mm_new (mm_uR (mm_IX9_init 59 (mm_new (mm_uR (mm_IX9_init 54 (mm_new (mm_uR (mm_IX9_init 49 (mm_new (mm_uR (mm_new M 48) 47 0 (some 48)) 49)) 48 (0 : Int32).toNatClampNeg (some 49)) 54)) 48 (1 : Int32).toNatClampNeg (some 54)) 59)) 48 (2 : Int32).toNatClampNeg (some 59)) 64)) 48 (3 : Int32).toNatClampNeg (some 64)) 69)) 48 (4 : Int32).toNatClampNeg (some 69)) 74)) 48 (5 : Int32).toNatClampNeg (some 74)) 79)) 48 (6 : Int32).toNatClampNeg (some 79)) 84)) 48 (7 : Int32).toNatClampNeg (some 84)) 89)) 48 (8 : Int32).toNatClampNeg (some 89)) 94)) 48 (9 : Int32).toNatClampNeg (some 94)) 99)) 48 (10 : Int32).toNatClampNeg (some 99)) 104)) 48 (11 : Int32).toNatClampNeg (some 104)) 109)) 48 (12 : Int32).toNatClampNeg (some 109)) 114)) dX4_init_30 kX4_15 bX9_init rfl rfl iX9_init (Nat.le_of_ble_eq_true rfl) (by decide) (by decide) (by decide) (rX9_init (by decide) rfl) (fun m hm => ?_)
  subst hm
  refine ct_aast (pc := 33) (ci := 9) (q := (RX9, TX9, 7)) dX4_init_33 (ct_sh sh_48 (by decide)) (ct_sh sh_114 (by decide)) rfl rfl (mm_vin (k := 13) rfl (by decide) (by decide)) ?_
  refine mm_iinc (pc := 34) (j := 0) (v := 14) (lv' := [(1, .int 14), (0, .ref 47)]) dX4_init_34 rfl rfl (by decide) rfl ?_
  refine mm_goto (pc := 37) (tgt := 15) dX4_init_37 (by decide) ?_
  refine mm_iload_n (pc := 15) (j := 0) dX4_init_15 rfl rfl ?_
  refine mm_bipush (pc := 16) (x := 20) dX4_init_16 rfl ?_
  refine mm_icmp_ge (pc := 18) (tgt := 40) dX4_init_18 (by decide) (fun hc => absurd hc (by decide)) (fun _ => ?_)
  refine mm_aload_n (pc := 21) (j := 1) dX4_init_21 rfl rfl ?_
  refine mm_getR (pc := 22) (ci := 4) (N := 3) (r := 48) dX4_init_22 fX4_11 (ct_sh sh_47 (by decide)) rfl (by rfl) ?_
  refine mm_iload_n (pc := 25) (j := 0) dX4_init_25 rfl rfl ?_
  refine ct_newo (pc := 26) (c := 119) (k := 71) (n := 1770) (ci := 9) (N := 7) dX4_init_26 rfl qX4_9 qi9 qn9 qk9 (by decide) (by decide) sh_119 ?_
  refine mm_dup (pc := 29) dX4_init_29 rfl ?_
  refine ct_callIN (pc := 30) (c := 120) (c' := 124) (k := 72) (n := 1777) (mc' := 4) (ms' := 118) (K := fun m => m = mm_IX9_init 119 (mm_new (mm_uR (mm_IX9_init 114 (mm_new (mm_uR (mm_IX9_init 109 (mm_new (mm_uR (mm_IX9_init 104 (mm_new (mm_uR (mm_IX9_init 99 (mm_new (mm_uR (mm_IX9_init 94 (mm_new (mm_uR (mm_IX9_init 89 (mm_new (mm_uR (mm_IX9_init 84 (mm_new (mm_uR (mm_IX9_init 79 (mm_new (mm_uR (mm_IX9_init 74 (mm_new (mm_uR (mm_IX9_init 69 (mm_new (mm_uR (mm_IX9_init 64 (mm_new (mm_uR (mm_IX9_init 59 (mm_new (mm_uR (mm_IX9_init 54 (mm_new (mm_uR (mm_IX9_init 49 (mm_new (mm_uR (mm_new M 48) 47 0 (some 48)) 49)) 48 (0 : Int32).toNatClampNeg (some 49)) 54)) 48 (1 : Int32).toNatClampNeg (some 54)) 59)) 48 (2 : Int32).toNatClampNeg (some 59)) 64)) 48 (3 : Int32).toNatClampNeg (some 64)) 69)) 48 (4 : Int32).toNatClampNeg (some 69)) 74)) 48 (5 : Int32).toNatClampNeg (some 74)) 79)) 48 (6 : Int32).toNatClampNeg (some 79)) 84)) 48 (7 : Int32).toNatClampNeg (some 84)) 89)) 48 (8 : Int32).toNatClampNeg (some 89)) 94)) 48 (9 : Int32).toNatClampNeg (some 94)) 99)) 48 (10 : Int32).toNatClampNeg (some 99)) 104)) 48 (11 : Int32).toNatClampNeg (some 104)) 109)) 48 (12 : Int32).toNatClampNeg (some 109)) 114)) 48 (13 : Int32).toNatClampNeg (some 114)) 119)) dX4_init_30 kX4_15 bX9_init rfl rfl iX9_init (Nat.le_of_ble_eq_true rfl) (by decide) (by decide) (by decide) (rX9_init (by decide) rfl) (fun m hm => ?_)
  subst hm
  refine ct_aast (pc := 33) (ci := 9) (q := (RX9, TX9, 7)) dX4_init_33 (ct_sh sh_48 (by decide)) (ct_sh sh_119 (by decide)) rfl rfl (mm_vin (k := 14) rfl (by decide) (by decide)) ?_
  refine mm_iinc (pc := 34) (j := 0) (v := 15) (lv' := [(1, .int 15), (0, .ref 47)]) dX4_init_34 rfl rfl (by decide) rfl ?_
  refine mm_goto (pc := 37) (tgt := 15) dX4_init_37 (by decide) ?_
  refine mm_iload_n (pc := 15) (j := 0) dX4_init_15 rfl rfl ?_
  refine mm_bipush (pc := 16) (x := 20) dX4_init_16 rfl ?_
  refine mm_icmp_ge (pc := 18) (tgt := 40) dX4_init_18 (by decide) (fun hc => absurd hc (by decide)) (fun _ => ?_)
  refine mm_aload_n (pc := 21) (j := 1) dX4_init_21 rfl rfl ?_
  refine mm_getR (pc := 22) (ci := 4) (N := 3) (r := 48) dX4_init_22 fX4_11 (ct_sh sh_47 (by decide)) rfl (by rfl) ?_
  refine mm_iload_n (pc := 25) (j := 0) dX4_init_25 rfl rfl ?_
  refine ct_newo (pc := 26) (c := 124) (k := 76) (n := 1895) (ci := 9) (N := 7) dX4_init_26 rfl qX4_9 qi9 qn9 qk9 (by decide) (by decide) sh_124 ?_
  refine mm_dup (pc := 29) dX4_init_29 rfl ?_
  refine ct_callIN (pc := 30) (c := 125) (c' := 129) (k := 77) (n := 1902) (mc' := 4) (ms' := 118) (K := fun m => m = mm_IX9_init 124 (mm_new (mm_uR (mm_IX9_init 119 (mm_new (mm_uR (mm_IX9_init 114 (mm_new (mm_uR (mm_IX9_init 109 (mm_new (mm_uR (mm_IX9_init 104 (mm_new (mm_uR (mm_IX9_init 99 (mm_new (mm_uR (mm_IX9_init 94 (mm_new (mm_uR (mm_IX9_init 89 (mm_new (mm_uR (mm_IX9_init 84 (mm_new (mm_uR (mm_IX9_init 79 (mm_new (mm_uR (mm_IX9_init 74 (mm_new (mm_uR (mm_IX9_init 69 (mm_new (mm_uR (mm_IX9_init 64 (mm_new (mm_uR (mm_IX9_init 59 (mm_new (mm_uR (mm_IX9_init 54 (mm_new (mm_uR (mm_IX9_init 49 (mm_new (mm_uR (mm_new M 48) 47 0 (some 48)) 49)) 48 (0 : Int32).toNatClampNeg (some 49)) 54)) 48 (1 : Int32).toNatClampNeg (some 54)) 59)) 48 (2 : Int32).toNatClampNeg (some 59)) 64)) 48 (3 : Int32).toNatClampNeg (some 64)) 69)) 48 (4 : Int32).toNatClampNeg (some 69)) 74)) 48 (5 : Int32).toNatClampNeg (some 74)) 79)) 48 (6 : Int32).toNatClampNeg (some 79)) 84)) 48 (7 : Int32).toNatClampNeg (some 84)) 89)) 48 (8 : Int32).toNatClampNeg (some 89)) 94)) 48 (9 : Int32).toNatClampNeg (some 94)) 99)) 48 (10 : Int32).toNatClampNeg (some 99)) 104)) 48 (11 : Int32).toNatClampNeg (some 104)) 109)) 48 (12 : Int32).toNatClampNeg (some 109)) 114)) 48 (13 : Int32).toNatClampNeg (some 114)) 119)) 48 (14 : Int32).toNatClampNeg (some 119)) 124)) dX4_init_30 kX4_15 bX9_init rfl rfl iX9_init (Nat.le_of_ble_eq_true rfl) (by decide) (by decide) (by decide) (rX9_init (by decide) rfl) (fun m hm => ?_)
  subst hm
  refine ct_aast (pc := 33) (ci := 9) (q := (RX9, TX9, 7)) dX4_init_33 (ct_sh sh_48 (by decide)) (ct_sh sh_124 (by decide)) rfl rfl (mm_vin (k := 15) rfl (by decide) (by decide)) ?_
  refine mm_iinc (pc := 34) (j := 0) (v := 16) (lv' := [(1, .int 16), (0, .ref 47)]) dX4_init_34 rfl rfl (by decide) rfl ?_
  refine mm_goto (pc := 37) (tgt := 15) dX4_init_37 (by decide) ?_
  refine mm_iload_n (pc := 15) (j := 0) dX4_init_15 rfl rfl ?_
  refine mm_bipush (pc := 16) (x := 20) dX4_init_16 rfl ?_
  refine mm_icmp_ge (pc := 18) (tgt := 40) dX4_init_18 (by decide) (fun hc => absurd hc (by decide)) (fun _ => ?_)
  refine mm_aload_n (pc := 21) (j := 1) dX4_init_21 rfl rfl ?_
  refine mm_getR (pc := 22) (ci := 4) (N := 3) (r := 48) dX4_init_22 fX4_11 (ct_sh sh_47 (by decide)) rfl (by rfl) ?_
  refine mm_iload_n (pc := 25) (j := 0) dX4_init_25 rfl rfl ?_
  refine ct_newo (pc := 26) (c := 129) (k := 81) (n := 2020) (ci := 9) (N := 7) dX4_init_26 rfl qX4_9 qi9 qn9 qk9 (by decide) (by decide) sh_129 ?_
  refine mm_dup (pc := 29) dX4_init_29 rfl ?_
  refine ct_callIN (pc := 30) (c := 130) (c' := 134) (k := 82) (n := 2027) (mc' := 4) (ms' := 118) (K := fun m => m = mm_IX9_init 129 (mm_new (mm_uR (mm_IX9_init 124 (mm_new (mm_uR (mm_IX9_init 119 (mm_new (mm_uR (mm_IX9_init 114 (mm_new (mm_uR (mm_IX9_init 109 (mm_new (mm_uR (mm_IX9_init 104 (mm_new (mm_uR (mm_IX9_init 99 (mm_new (mm_uR (mm_IX9_init 94 (mm_new (mm_uR (mm_IX9_init 89 (mm_new (mm_uR (mm_IX9_init 84 (mm_new (mm_uR (mm_IX9_init 79 (mm_new (mm_uR (mm_IX9_init 74 (mm_new (mm_uR (mm_IX9_init 69 (mm_new (mm_uR (mm_IX9_init 64 (mm_new (mm_uR (mm_IX9_init 59 (mm_new (mm_uR (mm_IX9_init 54 (mm_new (mm_uR (mm_IX9_init 49 (mm_new (mm_uR (mm_new M 48) 47 0 (some 48)) 49)) 48 (0 : Int32).toNatClampNeg (some 49)) 54)) 48 (1 : Int32).toNatClampNeg (some 54)) 59)) 48 (2 : Int32).toNatClampNeg (some 59)) 64)) 48 (3 : Int32).toNatClampNeg (some 64)) 69)) 48 (4 : Int32).toNatClampNeg (some 69)) 74)) 48 (5 : Int32).toNatClampNeg (some 74)) 79)) 48 (6 : Int32).toNatClampNeg (some 79)) 84)) 48 (7 : Int32).toNatClampNeg (some 84)) 89)) 48 (8 : Int32).toNatClampNeg (some 89)) 94)) 48 (9 : Int32).toNatClampNeg (some 94)) 99)) 48 (10 : Int32).toNatClampNeg (some 99)) 104)) 48 (11 : Int32).toNatClampNeg (some 104)) 109)) 48 (12 : Int32).toNatClampNeg (some 109)) 114)) 48 (13 : Int32).toNatClampNeg (some 114)) 119)) 48 (14 : Int32).toNatClampNeg (some 119)) 124)) 48 (15 : Int32).toNatClampNeg (some 124)) 129)) dX4_init_30 kX4_15 bX9_init rfl rfl iX9_init (Nat.le_of_ble_eq_true rfl) (by decide) (by decide) (by decide) (rX9_init (by decide) rfl) (fun m hm => ?_)
  subst hm
  refine ct_aast (pc := 33) (ci := 9) (q := (RX9, TX9, 7)) dX4_init_33 (ct_sh sh_48 (by decide)) (ct_sh sh_129 (by decide)) rfl rfl (mm_vin (k := 16) rfl (by decide) (by decide)) ?_
  refine mm_iinc (pc := 34) (j := 0) (v := 17) (lv' := [(1, .int 17), (0, .ref 47)]) dX4_init_34 rfl rfl (by decide) rfl ?_
  refine mm_goto (pc := 37) (tgt := 15) dX4_init_37 (by decide) ?_
  refine mm_iload_n (pc := 15) (j := 0) dX4_init_15 rfl rfl ?_
  refine mm_bipush (pc := 16) (x := 20) dX4_init_16 rfl ?_
  refine mm_icmp_ge (pc := 18) (tgt := 40) dX4_init_18 (by decide) (fun hc => absurd hc (by decide)) (fun _ => ?_)
  refine mm_aload_n (pc := 21) (j := 1) dX4_init_21 rfl rfl ?_
  refine mm_getR (pc := 22) (ci := 4) (N := 3) (r := 48) dX4_init_22 fX4_11 (ct_sh sh_47 (by decide)) rfl (by rfl) ?_
  refine mm_iload_n (pc := 25) (j := 0) dX4_init_25 rfl rfl ?_
  refine ct_newo (pc := 26) (c := 134) (k := 86) (n := 2145) (ci := 9) (N := 7) dX4_init_26 rfl qX4_9 qi9 qn9 qk9 (by decide) (by decide) sh_134 ?_
  refine mm_dup (pc := 29) dX4_init_29 rfl ?_
  refine ct_callIN (pc := 30) (c := 135) (c' := 139) (k := 87) (n := 2152) (mc' := 4) (ms' := 118) (K := fun m => m = mm_IX9_init 134 (mm_new (mm_uR (mm_IX9_init 129 (mm_new (mm_uR (mm_IX9_init 124 (mm_new (mm_uR (mm_IX9_init 119 (mm_new (mm_uR (mm_IX9_init 114 (mm_new (mm_uR (mm_IX9_init 109 (mm_new (mm_uR (mm_IX9_init 104 (mm_new (mm_uR (mm_IX9_init 99 (mm_new (mm_uR (mm_IX9_init 94 (mm_new (mm_uR (mm_IX9_init 89 (mm_new (mm_uR (mm_IX9_init 84 (mm_new (mm_uR (mm_IX9_init 79 (mm_new (mm_uR (mm_IX9_init 74 (mm_new (mm_uR (mm_IX9_init 69 (mm_new (mm_uR (mm_IX9_init 64 (mm_new (mm_uR (mm_IX9_init 59 (mm_new (mm_uR (mm_IX9_init 54 (mm_new (mm_uR (mm_IX9_init 49 (mm_new (mm_uR (mm_new M 48) 47 0 (some 48)) 49)) 48 (0 : Int32).toNatClampNeg (some 49)) 54)) 48 (1 : Int32).toNatClampNeg (some 54)) 59)) 48 (2 : Int32).toNatClampNeg (some 59)) 64)) 48 (3 : Int32).toNatClampNeg (some 64)) 69)) 48 (4 : Int32).toNatClampNeg (some 69)) 74)) 48 (5 : Int32).toNatClampNeg (some 74)) 79)) 48 (6 : Int32).toNatClampNeg (some 79)) 84)) 48 (7 : Int32).toNatClampNeg (some 84)) 89)) 48 (8 : Int32).toNatClampNeg (some 89)) 94)) 48 (9 : Int32).toNatClampNeg (some 94)) 99)) 48 (10 : Int32).toNatClampNeg (some 99)) 104)) 48 (11 : Int32).toNatClampNeg (some 104)) 109)) 48 (12 : Int32).toNatClampNeg (some 109)) 114)) 48 (13 : Int32).toNatClampNeg (some 114)) 119)) 48 (14 : Int32).toNatClampNeg (some 119)) 124)) 48 (15 : Int32).toNatClampNeg (some 124)) 129)) 48 (16 : Int32).toNatClampNeg (some 129)) 134)) dX4_init_30 kX4_15 bX9_init rfl rfl iX9_init (Nat.le_of_ble_eq_true rfl) (by decide) (by decide) (by decide) (rX9_init (by decide) rfl) (fun m hm => ?_)
  subst hm
  refine ct_aast (pc := 33) (ci := 9) (q := (RX9, TX9, 7)) dX4_init_33 (ct_sh sh_48 (by decide)) (ct_sh sh_134 (by decide)) rfl rfl (mm_vin (k := 17) rfl (by decide) (by decide)) ?_
  refine mm_iinc (pc := 34) (j := 0) (v := 18) (lv' := [(1, .int 18), (0, .ref 47)]) dX4_init_34 rfl rfl (by decide) rfl ?_
  refine mm_goto (pc := 37) (tgt := 15) dX4_init_37 (by decide) ?_
  refine mm_iload_n (pc := 15) (j := 0) dX4_init_15 rfl rfl ?_
  refine mm_bipush (pc := 16) (x := 20) dX4_init_16 rfl ?_
  refine mm_icmp_ge (pc := 18) (tgt := 40) dX4_init_18 (by decide) (fun hc => absurd hc (by decide)) (fun _ => ?_)
  refine mm_aload_n (pc := 21) (j := 1) dX4_init_21 rfl rfl ?_
  refine mm_getR (pc := 22) (ci := 4) (N := 3) (r := 48) dX4_init_22 fX4_11 (ct_sh sh_47 (by decide)) rfl (by rfl) ?_
  refine mm_iload_n (pc := 25) (j := 0) dX4_init_25 rfl rfl ?_
  refine ct_newo (pc := 26) (c := 139) (k := 91) (n := 2270) (ci := 9) (N := 7) dX4_init_26 rfl qX4_9 qi9 qn9 qk9 (by decide) (by decide) sh_139 ?_
  refine mm_dup (pc := 29) dX4_init_29 rfl ?_
  refine ct_callIN (pc := 30) (c := 140) (c' := 144) (k := 92) (n := 2277) (mc' := 4) (ms' := 118) (K := fun m => m = mm_IX9_init 139 (mm_new (mm_uR (mm_IX9_init 134 (mm_new (mm_uR (mm_IX9_init 129 (mm_new (mm_uR (mm_IX9_init 124 (mm_new (mm_uR (mm_IX9_init 119 (mm_new (mm_uR (mm_IX9_init 114 (mm_new (mm_uR (mm_IX9_init 109 (mm_new (mm_uR (mm_IX9_init 104 (mm_new (mm_uR (mm_IX9_init 99 (mm_new (mm_uR (mm_IX9_init 94 (mm_new (mm_uR (mm_IX9_init 89 (mm_new (mm_uR (mm_IX9_init 84 (mm_new (mm_uR (mm_IX9_init 79 (mm_new (mm_uR (mm_IX9_init 74 (mm_new (mm_uR (mm_IX9_init 69 (mm_new (mm_uR (mm_IX9_init 64 (mm_new (mm_uR (mm_IX9_init 59 (mm_new (mm_uR (mm_IX9_init 54 (mm_new (mm_uR (mm_IX9_init 49 (mm_new (mm_uR (mm_new M 48) 47 0 (some 48)) 49)) 48 (0 : Int32).toNatClampNeg (some 49)) 54)) 48 (1 : Int32).toNatClampNeg (some 54)) 59)) 48 (2 : Int32).toNatClampNeg (some 59)) 64)) 48 (3 : Int32).toNatClampNeg (some 64)) 69)) 48 (4 : Int32).toNatClampNeg (some 69)) 74)) 48 (5 : Int32).toNatClampNeg (some 74)) 79)) 48 (6 : Int32).toNatClampNeg (some 79)) 84)) 48 (7 : Int32).toNatClampNeg (some 84)) 89)) 48 (8 : Int32).toNatClampNeg (some 89)) 94)) 48 (9 : Int32).toNatClampNeg (some 94)) 99)) 48 (10 : Int32).toNatClampNeg (some 99)) 104)) 48 (11 : Int32).toNatClampNeg (some 104)) 109)) 48 (12 : Int32).toNatClampNeg (some 109)) 114)) 48 (13 : Int32).toNatClampNeg (some 114)) 119)) 48 (14 : Int32).toNatClampNeg (some 119)) 124)) 48 (15 : Int32).toNatClampNeg (some 124)) 129)) 48 (16 : Int32).toNatClampNeg (some 129)) 134)) 48 (17 : Int32).toNatClampNeg (some 134)) 139)) dX4_init_30 kX4_15 bX9_init rfl rfl iX9_init (Nat.le_of_ble_eq_true rfl) (by decide) (by decide) (by decide) (rX9_init (by decide) rfl) (fun m hm => ?_)
  subst hm
  refine ct_aast (pc := 33) (ci := 9) (q := (RX9, TX9, 7)) dX4_init_33 (ct_sh sh_48 (by decide)) (ct_sh sh_139 (by decide)) rfl rfl (mm_vin (k := 18) rfl (by decide) (by decide)) ?_
  refine mm_iinc (pc := 34) (j := 0) (v := 19) (lv' := [(1, .int 19), (0, .ref 47)]) dX4_init_34 rfl rfl (by decide) rfl ?_
  refine mm_goto (pc := 37) (tgt := 15) dX4_init_37 (by decide) ?_
  refine mm_iload_n (pc := 15) (j := 0) dX4_init_15 rfl rfl ?_
  refine mm_bipush (pc := 16) (x := 20) dX4_init_16 rfl ?_
  refine mm_icmp_ge (pc := 18) (tgt := 40) dX4_init_18 (by decide) (fun hc => absurd hc (by decide)) (fun _ => ?_)
  refine mm_aload_n (pc := 21) (j := 1) dX4_init_21 rfl rfl ?_
  refine mm_getR (pc := 22) (ci := 4) (N := 3) (r := 48) dX4_init_22 fX4_11 (ct_sh sh_47 (by decide)) rfl (by rfl) ?_
  refine mm_iload_n (pc := 25) (j := 0) dX4_init_25 rfl rfl ?_
  refine ct_newo (pc := 26) (c := 144) (k := 96) (n := 2395) (ci := 9) (N := 7) dX4_init_26 rfl qX4_9 qi9 qn9 qk9 (by decide) (by decide) sh_144 ?_
  refine mm_dup (pc := 29) dX4_init_29 rfl ?_
  refine ct_callIN (pc := 30) (c := 145) (c' := 149) (k := 97) (n := 2402) (mc' := 4) (ms' := 118) (K := fun m => m = mm_IX9_init 144 (mm_new (mm_uR (mm_IX9_init 139 (mm_new (mm_uR (mm_IX9_init 134 (mm_new (mm_uR (mm_IX9_init 129 (mm_new (mm_uR (mm_IX9_init 124 (mm_new (mm_uR (mm_IX9_init 119 (mm_new (mm_uR (mm_IX9_init 114 (mm_new (mm_uR (mm_IX9_init 109 (mm_new (mm_uR (mm_IX9_init 104 (mm_new (mm_uR (mm_IX9_init 99 (mm_new (mm_uR (mm_IX9_init 94 (mm_new (mm_uR (mm_IX9_init 89 (mm_new (mm_uR (mm_IX9_init 84 (mm_new (mm_uR (mm_IX9_init 79 (mm_new (mm_uR (mm_IX9_init 74 (mm_new (mm_uR (mm_IX9_init 69 (mm_new (mm_uR (mm_IX9_init 64 (mm_new (mm_uR (mm_IX9_init 59 (mm_new (mm_uR (mm_IX9_init 54 (mm_new (mm_uR (mm_IX9_init 49 (mm_new (mm_uR (mm_new M 48) 47 0 (some 48)) 49)) 48 (0 : Int32).toNatClampNeg (some 49)) 54)) 48 (1 : Int32).toNatClampNeg (some 54)) 59)) 48 (2 : Int32).toNatClampNeg (some 59)) 64)) 48 (3 : Int32).toNatClampNeg (some 64)) 69)) 48 (4 : Int32).toNatClampNeg (some 69)) 74)) 48 (5 : Int32).toNatClampNeg (some 74)) 79)) 48 (6 : Int32).toNatClampNeg (some 79)) 84)) 48 (7 : Int32).toNatClampNeg (some 84)) 89)) 48 (8 : Int32).toNatClampNeg (some 89)) 94)) 48 (9 : Int32).toNatClampNeg (some 94)) 99)) 48 (10 : Int32).toNatClampNeg (some 99)) 104)) 48 (11 : Int32).toNatClampNeg (some 104)) 109)) 48 (12 : Int32).toNatClampNeg (some 109)) 114)) 48 (13 : Int32).toNatClampNeg (some 114)) 119)) 48 (14 : Int32).toNatClampNeg (some 119)) 124)) 48 (15 : Int32).toNatClampNeg (some 124)) 129)) 48 (16 : Int32).toNatClampNeg (some 129)) 134)) 48 (17 : Int32).toNatClampNeg (some 134)) 139)) 48 (18 : Int32).toNatClampNeg (some 139)) 144)) dX4_init_30 kX4_15 bX9_init rfl rfl iX9_init (Nat.le_of_ble_eq_true rfl) (by decide) (by decide) (by decide) (rX9_init (by decide) rfl) (fun m hm => ?_)
  subst hm
  refine ct_aast (pc := 33) (ci := 9) (q := (RX9, TX9, 7)) dX4_init_33 (ct_sh sh_48 (by decide)) (ct_sh sh_144 (by decide)) rfl rfl (mm_vin (k := 19) rfl (by decide) (by decide)) ?_
  refine mm_iinc (pc := 34) (j := 0) (v := 20) (lv' := [(1, .int 20), (0, .ref 47)]) dX4_init_34 rfl rfl (by decide) rfl ?_
  refine mm_goto (pc := 37) (tgt := 15) dX4_init_37 (by decide) ?_
  refine mm_iload_n (pc := 15) (j := 0) dX4_init_15 rfl rfl ?_
  refine mm_bipush (pc := 16) (x := 20) dX4_init_16 rfl ?_
  refine mm_icmp_ge (pc := 18) (tgt := 40) dX4_init_18 (by decide) (fun _ => ?_) (fun hc => absurd (by decide) hc)
  exact mm_vret (pc := 40) dX4_init_40 rfl (by decide) (by decide) ⟨rfl, rfl, h⟩
set_option maxRecDepth 100000 in
def mm_IX10_init (M : mm_M) : mm_M := mm_uR (mm_new (mm_uR (mm_new (mm_uR (mm_new (mm_uR (mm_new (mm_uI (mm_uI (mm_uR (mm_new (mm_uR (mm_new M 150) 149 2 (some 150)) 151) 149 4 (some 151)) 149 5 (-1)) 149 6 (-1)) 152) 149 7 (some 152)) 153) 149 8 (some 153)) 154) 149 9 (some 154)) 155) 149 10 (some 155)
set_option maxRecDepth 100000 in
set_option maxHeartbeats 8000000 in
theorem rX10_init {d : Nat} {M : mm_M} {K : mm_M → Prop} (h : K (mm_IX10_init M)) : mm_CT mX10_init (d + 1) 6 1233 [.ref 149] 150 156 M K := by
  show mm_W mX10_init (d + 1) 6 1233 0 [(0, .ref 149)] [] (mm_SH.take 150) M 0 0 _
  unfold mm_IX10_init at h
  refine mm_aload_n (pc := 0) (j := 0) dX10_init_0 rfl rfl ?_
  refine mm_objInit (pc := 1) dX10_init_1 kX10_3 oi_in oi_co (Nat.le_of_ble_eq_true rfl) ?_
  refine mm_aload_n (pc := 4) (j := 0) dX10_init_4 rfl rfl ?_
  refine mm_bipush (pc := 5) (x := 7) dX10_init_5 rfl ?_
  refine ct_newarr (pc := 7) (c := 150) (k := 0) (n := 0) (N := 7) dX10_init_7 rfl (Or.inl ⟨rfl, rfl⟩) qa0 (by decide +kernel) (by decide +kernel) (by decide +kernel) (by decide) (by decide) sh_150 ?_
  refine mm_putR (pc := 9) (ci := 10) (N := 11) dX10_init_9 fX10_9 (ct_sh sh_149 (by decide)) (by decide +kernel) rfl ?_
  refine mm_aload_n (pc := 12) (j := 0) dX10_init_12 rfl rfl ?_
  refine mm_iconst (pc := 13) (x := 3) dX10_init_13 rfl ?_
  refine ct_newarr (pc := 14) (c := 151) (k := 1) (n := 7) (N := 3) dX10_init_14 rfl (Or.inl ⟨rfl, rfl⟩) qa0 (by decide +kernel) (by decide +kernel) (by decide +kernel) (by decide) (by decide) sh_151 ?_
  refine mm_putR (pc := 16) (ci := 10) (N := 11) dX10_init_16 fX10_15 (ct_sh sh_149 (by decide)) (by decide +kernel) rfl ?_
  refine mm_aload_n (pc := 19) (j := 0) dX10_init_19 rfl rfl ?_
  refine mm_iconst (pc := 20) (x := (-1)) dX10_init_20 rfl ?_
  refine mm_putI (pc := 21) (ci := 10) (N := 11) dX10_init_21 fX10_18 (ct_sh sh_149 (by decide)) (by decide +kernel) rfl rfl rfl ?_
  refine mm_aload_n (pc := 24) (j := 0) dX10_init_24 rfl rfl ?_
  refine mm_iconst (pc := 25) (x := (-1)) dX10_init_25 rfl ?_
  refine mm_putI (pc := 26) (ci := 10) (N := 11) dX10_init_26 fX10_22 (ct_sh sh_149 (by decide)) (by decide +kernel) rfl rfl rfl ?_
  refine mm_aload_n (pc := 29) (j := 0) dX10_init_29 rfl rfl ?_
  refine mm_sipush (pc := 30) (x := 1024) dX10_init_30 rfl ?_
  refine ct_newarr (pc := 33) (c := 152) (k := 2) (n := 10) (N := 1024) dX10_init_33 rfl (Or.inl ⟨rfl, rfl⟩) qa0 (by decide +kernel) (by decide +kernel) (by decide +kernel) (by decide) (by decide) sh_152 ?_
  refine mm_putR (pc := 35) (ci := 10) (N := 11) dX10_init_35 fX10_25 (ct_sh sh_149 (by decide)) (by decide +kernel) rfl ?_
  refine mm_aload_n (pc := 38) (j := 0) dX10_init_38 rfl rfl ?_
  refine mm_bipush (pc := 39) (x := 64) dX10_init_39 rfl ?_
  refine ct_newarr (pc := 41) (c := 153) (k := 3) (n := 1034) (N := 64) dX10_init_41 rfl (Or.inl ⟨rfl, rfl⟩) qa0 (by decide +kernel) (by decide +kernel) (by decide +kernel) (by decide) (by decide) sh_153 ?_
  refine mm_putR (pc := 43) (ci := 10) (N := 11) dX10_init_43 fX10_28 (ct_sh sh_149 (by decide)) (by decide +kernel) rfl ?_
  refine mm_aload_n (pc := 46) (j := 0) dX10_init_46 rfl rfl ?_
  refine mm_bipush (pc := 47) (x := 7) dX10_init_47 rfl ?_
  refine ct_newarr (pc := 49) (c := 154) (k := 4) (n := 1098) (N := 7) dX10_init_49 rfl (Or.inl ⟨rfl, rfl⟩) qa0 (by decide +kernel) (by decide +kernel) (by decide +kernel) (by decide) (by decide) sh_154 ?_
  refine mm_putR (pc := 51) (ci := 10) (N := 11) dX10_init_51 fX10_31 (ct_sh sh_149 (by decide)) (by decide +kernel) rfl ?_
  refine mm_aload_n (pc := 54) (j := 0) dX10_init_54 rfl rfl ?_
  refine mm_sipush (pc := 55) (x := 128) dX10_init_55 rfl ?_
  refine ct_newarr (pc := 58) (c := 155) (k := 5) (n := 1105) (N := 128) dX10_init_58 rfl (Or.inl ⟨rfl, rfl⟩) qa0 (by decide +kernel) (by decide +kernel) (by decide +kernel) (by decide) (by decide) sh_155 ?_
  refine mm_putR (pc := 60) (ci := 10) (N := 11) dX10_init_60 fX10_34 (ct_sh sh_149 (by decide)) (by decide +kernel) rfl ?_
  exact mm_vret (pc := 63) dX10_init_63 rfl (by decide) (by decide) ⟨rfl, rfl, h⟩
set_option maxRecDepth 100000 in
def mm_IX3_init (M : mm_M) : mm_M := mm_uR (mm_new (mm_uI (mm_uR (mm_new M 157) 156 1 (some 157)) 156 3 (-1)) 158) 156 5 (some 158)
set_option maxRecDepth 100000 in
set_option maxHeartbeats 8000000 in
theorem rX3_init {d : Nat} {M : mm_M} {K : mm_M → Prop} (h : K (mm_IX3_init M)) : mm_CT mX3_init (d + 1) 2 906 [.ref 156] 157 159 M K := by
  show mm_W mX3_init (d + 1) 2 906 0 [(0, .ref 156)] [] (mm_SH.take 157) M 0 0 _
  unfold mm_IX3_init at h
  refine mm_aload_n (pc := 0) (j := 0) dX3_init_0 rfl rfl ?_
  refine mm_objInit (pc := 1) dX3_init_1 kX3_3 oi_in oi_co (Nat.le_of_ble_eq_true rfl) ?_
  refine mm_aload_n (pc := 4) (j := 0) dX3_init_4 rfl rfl ?_
  refine mm_bipush (pc := 5) (x := 10) dX3_init_5 rfl ?_
  refine ct_newarr (pc := 7) (c := 157) (k := 0) (n := 0) (N := 10) dX3_init_7 rfl (Or.inl ⟨rfl, rfl⟩) qa0 (by decide +kernel) (by decide +kernel) (by decide +kernel) (by decide) (by decide) sh_157 ?_
  refine mm_putR (pc := 9) (ci := 3) (N := 6) dX3_init_9 fX3_11 (ct_sh sh_156 (by decide)) (by decide +kernel) rfl ?_
  refine mm_aload_n (pc := 12) (j := 0) dX3_init_12 rfl rfl ?_
  refine mm_iconst (pc := 13) (x := (-1)) dX3_init_13 rfl ?_
  refine mm_putI (pc := 14) (ci := 3) (N := 6) dX3_init_14 fX3_15 (ct_sh sh_156 (by decide)) (by decide +kernel) rfl rfl rfl ?_
  refine mm_aload_n (pc := 17) (j := 0) dX3_init_17 rfl rfl ?_
  refine mm_sipush (pc := 18) (x := 896) dX3_init_18 rfl ?_
  refine ct_newarr (pc := 21) (c := 158) (k := 1) (n := 10) (N := 896) dX3_init_21 rfl (Or.inl ⟨rfl, rfl⟩) qa0 (by decide +kernel) (by decide +kernel) (by decide +kernel) (by decide) (by decide) sh_158 ?_
  refine mm_putR (pc := 23) (ci := 3) (N := 6) dX3_init_23 fX3_19 (ct_sh sh_156 (by decide)) (by decide +kernel) rfl ?_
  exact mm_vret (pc := 26) dX3_init_26 rfl (by decide) (by decide) ⟨rfl, rfl, h⟩
set_option maxRecDepth 100000 in
def mm_IX8_init (M : mm_M) : mm_M := mm_uI (mm_uI (mm_uR (mm_new (mm_uR (mm_new (mm_uR (mm_new (mm_uR (mm_new M 160) 159 7 (some 160)) 161) 159 8 (some 161)) 162) 159 9 (some 162)) 163) 159 10 (some 163)) 159 11 (-1)) 159 13 (-1)
set_option maxRecDepth 100000 in
set_option maxHeartbeats 8000000 in
theorem rX8_init {d : Nat} {M : mm_M} {K : mm_M → Prop} (h : K (mm_IX8_init M)) : mm_CT mX8_init (d + 1) 4 3376 [.ref 159] 160 164 M K := by
  show mm_W mX8_init (d + 1) 4 3376 0 [(0, .ref 159)] [] (mm_SH.take 160) M 0 0 _
  unfold mm_IX8_init at h
  refine mm_aload_n (pc := 0) (j := 0) dX8_init_0 rfl rfl ?_
  refine mm_objInit (pc := 1) dX8_init_1 kX8_3 oi_in oi_co (Nat.le_of_ble_eq_true rfl) ?_
  refine mm_aload_n (pc := 4) (j := 0) dX8_init_4 rfl rfl ?_
  refine mm_bipush (pc := 5) (x := 48) dX8_init_5 rfl ?_
  refine ct_newarr (pc := 7) (c := 160) (k := 0) (n := 0) (N := 48) dX8_init_7 rfl (Or.inl ⟨rfl, rfl⟩) qa0 (by decide +kernel) (by decide +kernel) (by decide +kernel) (by decide) (by decide) sh_160 ?_
  refine mm_putR (pc := 9) (ci := 8) (N := 15) dX8_init_9 fX8_11 (ct_sh sh_159 (by decide)) (by decide +kernel) rfl ?_
  refine mm_aload_n (pc := 12) (j := 0) dX8_init_12 rfl rfl ?_
  refine mm_bipush (pc := 13) (x := 100) dX8_init_13 rfl ?_
  refine ct_newarr (pc := 15) (c := 161) (k := 1) (n := 48) (N := 100) dX8_init_15 rfl (Or.inl ⟨rfl, rfl⟩) qa0 (by decide +kernel) (by decide +kernel) (by decide +kernel) (by decide) (by decide) sh_161 ?_
  refine mm_putR (pc := 17) (ci := 8) (N := 15) dX8_init_17 fX8_15 (ct_sh sh_159 (by decide)) (by decide +kernel) rfl ?_
  refine mm_aload_n (pc := 20) (j := 0) dX8_init_20 rfl rfl ?_
  refine mm_sipush (pc := 21) (x := 3100) dX8_init_21 rfl ?_
  refine ct_newarr (pc := 24) (c := 162) (k := 2) (n := 148) (N := 3100) dX8_init_24 rfl (Or.inr (Or.inl ⟨rfl, rfl⟩)) qa1 (by decide +kernel) (by decide +kernel) (by decide +kernel) (by decide) (by decide) sh_162 ?_
  refine mm_putR (pc := 26) (ci := 8) (N := 15) dX8_init_26 fX8_18 (ct_sh sh_159 (by decide)) (by decide +kernel) rfl ?_
  refine mm_aload_n (pc := 29) (j := 0) dX8_init_29 rfl rfl ?_
  refine mm_sipush (pc := 30) (x := 128) dX8_init_30 rfl ?_
  refine ct_newarr (pc := 33) (c := 163) (k := 3) (n := 3248) (N := 128) dX8_init_33 rfl (Or.inl ⟨rfl, rfl⟩) qa0 (by decide +kernel) (by decide +kernel) (by decide +kernel) (by decide) (by decide) sh_163 ?_
  refine mm_putR (pc := 35) (ci := 8) (N := 15) dX8_init_35 fX8_22 (ct_sh sh_159 (by decide)) (by decide +kernel) rfl ?_
  refine mm_aload_n (pc := 38) (j := 0) dX8_init_38 rfl rfl ?_
  refine mm_iconst (pc := 39) (x := (-1)) dX8_init_39 rfl ?_
  refine mm_putI (pc := 40) (ci := 8) (N := 15) dX8_init_40 fX8_25 (ct_sh sh_159 (by decide)) (by decide +kernel) rfl rfl rfl ?_
  refine mm_aload_n (pc := 43) (j := 0) dX8_init_43 rfl rfl ?_
  refine mm_iconst (pc := 44) (x := (-1)) dX8_init_44 rfl ?_
  refine mm_putI (pc := 45) (ci := 8) (N := 15) dX8_init_45 fX8_29 (ct_sh sh_159 (by decide)) (by decide +kernel) rfl rfl rfl ?_
  exact mm_vret (pc := 48) dX8_init_48 rfl (by decide) (by decide) ⟨rfl, rfl, h⟩
set_option maxRecDepth 100000 in
def mm_IX11_init (M : mm_M) : mm_M := mm_uR (mm_IX8_init (mm_new (mm_uR (mm_IX3_init (mm_new (mm_uR (mm_IX10_init (mm_new (mm_uR (mm_IX4_init (mm_new (mm_uR (mm_IX9_init 42 (mm_new (mm_uR (mm_IX9_init 37 (mm_new (mm_uR (mm_uR (mm_IX1_init (mm_new (mm_uR (mm_IX0_init (mm_new (mm_uR (mm_IX2_init (mm_new (mm_uR (mm_new (mm_uI (mm_uI (mm_uR (mm_new (mm_uR (mm_new M 1) 0 0 (some 1)) 2) 0 2 (some 2)) 0 4 (-1)) 0 5 1) 3) 0 6 (some 3)) 4)) 0 8 (some 4)) 16)) 0 9 (some 16)) 21)) 0 10 (some 21)) 0 11 (some 22)) 37)) 0 12 (some 37)) 42)) 0 13 (some 42)) 47)) 0 14 (some 47)) 149)) 0 15 (some 149)) 156)) 0 16 (some 156)) 159)) 0 17 (some 159)
set_option maxRecDepth 100000 in
set_option maxHeartbeats 8000000 in
theorem rX11_init {d : Nat} {M : mm_M} {K : mm_M → Prop} (h : K (mm_IX11_init M)) : mm_CT mX11_init (d + 3) 163 15238 [.ref 0] 1 164 M K := by
  show mm_W mX11_init (d + 3) 163 15238 0 [(0, .ref 0)] [] (mm_SH.take 1) M 0 0 _
  unfold mm_IX11_init at h
  refine mm_aload_n (pc := 0) (j := 0) dX11_init_0 rfl rfl ?_
  refine mm_objInit (pc := 1) dX11_init_1 kX11_1 oi_in oi_co (Nat.le_of_ble_eq_true rfl) ?_
  refine mm_aload_n (pc := 4) (j := 0) dX11_init_4 rfl rfl ?_
  refine mm_sipush (pc := 5) (x := 1600) dX11_init_5 rfl ?_
  refine ct_newarr (pc := 8) (c := 1) (k := 0) (n := 0) (N := 1600) dX11_init_8 rfl (Or.inl ⟨rfl, rfl⟩) qa0 (by decide +kernel) (by decide +kernel) (by decide +kernel) (by decide) (by decide) sh_1 ?_
  refine mm_putR (pc := 10) (ci := 11) (N := 19) dX11_init_10 fX11_9 (ct_sh sh_0 (by decide)) (by decide +kernel) rfl ?_
  refine mm_aload_n (pc := 13) (j := 0) dX11_init_13 rfl rfl ?_
  refine mm_bipush (pc := 14) (x := 6) dX11_init_14 rfl ?_
  refine ct_newarr (pc := 16) (c := 2) (k := 1) (n := 1600) (N := 6) dX11_init_16 rfl (Or.inl ⟨rfl, rfl⟩) qa0 (by decide +kernel) (by decide +kernel) (by decide +kernel) (by decide) (by decide) sh_2 ?_
  refine mm_putR (pc := 18) (ci := 11) (N := 19) dX11_init_18 fX11_13 (ct_sh sh_0 (by decide)) (by decide +kernel) rfl ?_
  refine mm_aload_n (pc := 21) (j := 0) dX11_init_21 rfl rfl ?_
  refine mm_iconst (pc := 22) (x := (-1)) dX11_init_22 rfl ?_
  refine mm_putI (pc := 23) (ci := 11) (N := 19) dX11_init_23 fX11_16 (ct_sh sh_0 (by decide)) (by decide +kernel) rfl rfl rfl ?_
  refine mm_aload_n (pc := 26) (j := 0) dX11_init_26 rfl rfl ?_
  refine mm_iconst (pc := 27) (x := 1) dX11_init_27 rfl ?_
  refine mm_putI (pc := 28) (ci := 11) (N := 19) dX11_init_28 fX11_20 (ct_sh sh_0 (by decide)) (by decide +kernel) rfl rfl rfl ?_
  refine mm_aload_n (pc := 31) (j := 0) dX11_init_31 rfl rfl ?_
  refine mm_bipush (pc := 32) (x := 7) dX11_init_32 rfl ?_
  refine mm_callS (pc := 34) (As := [.int 7]) (rest := [.ref 0]) (k := 2) (n := 1606) (mc' := 0) (ms' := 0) dX11_init_34 kX11_23.1 kX11_23.2.1 kX11_23.2.2 rfl (Nat.le_of_ble_eq_true rfl) (Nat.le_of_ble_eq_true rfl) (by decide) (by decide) (ct_il ?_)
  show mm_W mX11_init (d + 3) 163 15238 37 [(0, .ref 0)] [.int 45, .ref 0] (mm_SH.take 3) (mm_uI (mm_uI (mm_uR (mm_new (mm_uR (mm_new M 1) 0 0 (some 1)) 2) 0 2 (some 2)) 0 4 (-1)) 0 5 1) 2 1606 _
  refine ct_newarr (pc := 37) (c := 3) (k := 2) (n := 1606) (N := 45) dX11_init_37 rfl (Or.inl ⟨rfl, rfl⟩) qa0 (by decide +kernel) (by decide +kernel) (by decide +kernel) (by decide) (by decide) sh_3 ?_
  refine mm_putR (pc := 39) (ci := 11) (N := 19) dX11_init_39 fX11_29 (ct_sh sh_0 (by decide)) (by decide +kernel) rfl ?_
  refine mm_aload_n (pc := 42) (j := 0) dX11_init_42 rfl rfl ?_
  refine ct_newo (pc := 43) (c := 4) (k := 3) (n := 1651) (ci := 2) (N := 3) dX11_init_43 rfl qX11_32 qi2 qn2 qk2 (by decide) (by decide) sh_4 ?_
  refine mm_dup (pc := 46) dX11_init_46 rfl ?_
  refine ct_callIN (pc := 47) (c := 5) (c' := 16) (k := 4) (n := 1654) (mc' := 11) (ms' := 1764) (K := fun m => m = mm_IX2_init (mm_new (mm_uR (mm_new (mm_uI (mm_uI (mm_uR (mm_new (mm_uR (mm_new M 1) 0 0 (some 1)) 2) 0 2 (some 2)) 0 4 (-1)) 0 5 1) 3) 0 6 (some 3)) 4)) dX11_init_47 kX11_34 bX2_init rfl rfl iX2_init (Nat.le_of_ble_eq_true rfl) (by decide) (by decide) (by decide) (rX2_init rfl) (fun m hm => ?_)
  subst hm
  refine mm_putR (pc := 50) (ci := 11) (N := 19) dX11_init_50 fX11_35 (ct_sh sh_0 (by decide)) (by decide +kernel) rfl ?_
  refine mm_aload_n (pc := 53) (j := 0) dX11_init_53 rfl rfl ?_
  refine ct_newo (pc := 54) (c := 16) (k := 15) (n := 3418) (ci := 0) (N := 3) dX11_init_54 rfl qX11_39 qi0 qn0 qk0 (by decide) (by decide) sh_16 ?_
  refine mm_dup (pc := 57) dX11_init_57 rfl ?_
  refine ct_callIN (pc := 58) (c := 17) (c' := 21) (k := 16) (n := 3421) (mc' := 4) (ms' := 1623) (K := fun m => m = mm_IX0_init (mm_new (mm_uR (mm_IX2_init (mm_new (mm_uR (mm_new (mm_uI (mm_uI (mm_uR (mm_new (mm_uR (mm_new M 1) 0 0 (some 1)) 2) 0 2 (some 2)) 0 4 (-1)) 0 5 1) 3) 0 6 (some 3)) 4)) 0 8 (some 4)) 16)) dX11_init_58 kX11_41 bX0_init rfl rfl iX0_init (Nat.le_of_ble_eq_true rfl) (by decide) (by decide) (by decide) (rX0_init rfl) (fun m hm => ?_)
  subst hm
  refine mm_putR (pc := 61) (ci := 11) (N := 19) dX11_init_61 fX11_42 (ct_sh sh_0 (by decide)) (by decide +kernel) rfl ?_
  refine mm_aload_n (pc := 64) (j := 0) dX11_init_64 rfl rfl ?_
  refine ct_newo (pc := 65) (c := 21) (k := 20) (n := 5044) (ci := 1) (N := 5) dX11_init_65 rfl qX11_46 qi1 qn1 qk1 (by decide) (by decide) sh_21 ?_
  refine mm_dup (pc := 68) dX11_init_68 rfl ?_
  refine ct_callIN (pc := 69) (c := 22) (c' := 37) (k := 21) (n := 5049) (mc' := 15) (ms' := 1869) (K := fun m => m = mm_IX1_init (mm_new (mm_uR (mm_IX0_init (mm_new (mm_uR (mm_IX2_init (mm_new (mm_uR (mm_new (mm_uI (mm_uI (mm_uR (mm_new (mm_uR (mm_new M 1) 0 0 (some 1)) 2) 0 2 (some 2)) 0 4 (-1)) 0 5 1) 3) 0 6 (some 3)) 4)) 0 8 (some 4)) 16)) 0 9 (some 16)) 21)) dX11_init_69 kX11_48 bX1_init rfl rfl iX1_init (Nat.le_of_ble_eq_true rfl) (by decide) (by decide) (by decide) (rX1_init rfl) (fun m hm => ?_)
  subst hm
  refine mm_putR (pc := 72) (ci := 11) (N := 19) dX11_init_72 fX11_49 (ct_sh sh_0 (by decide)) (by decide +kernel) rfl ?_
  refine mm_aload_n (pc := 75) (j := 0) dX11_init_75 rfl rfl ?_
  refine mm_aload_n (pc := 76) (j := 0) dX11_init_76 rfl rfl ?_
  refine mm_getR (pc := 77) (ci := 11) (N := 19) (r := 21) dX11_init_77 fX11_49 (ct_sh sh_0 (by decide)) rfl (by rfl) ?_
  refine mm_getR (pc := 80) (ci := 1) (N := 5) (r := 22) dX11_init_80 fX11_53 (ct_sh sh_21 (by decide)) rfl (by rfl) ?_
  refine mm_putR (pc := 83) (ci := 11) (N := 19) dX11_init_83 fX11_57 (ct_sh sh_0 (by decide)) (by decide +kernel) rfl ?_
  refine mm_aload_n (pc := 86) (j := 0) dX11_init_86 rfl rfl ?_
  refine ct_newo (pc := 87) (c := 37) (k := 36) (n := 6918) (ci := 9) (N := 7) dX11_init_87 rfl qX11_24 qi9 qn9 qk9 (by decide) (by decide) sh_37 ?_
  refine mm_dup (pc := 90) dX11_init_90 rfl ?_
  refine ct_callIN (pc := 91) (c := 38) (c' := 42) (k := 37) (n := 6925) (mc' := 4) (ms' := 118) (K := fun m => m = mm_IX9_init 37 (mm_new (mm_uR (mm_uR (mm_IX1_init (mm_new (mm_uR (mm_IX0_init (mm_new (mm_uR (mm_IX2_init (mm_new (mm_uR (mm_new (mm_uI (mm_uI (mm_uR (mm_new (mm_uR (mm_new M 1) 0 0 (some 1)) 2) 0 2 (some 2)) 0 4 (-1)) 0 5 1) 3) 0 6 (some 3)) 4)) 0 8 (some 4)) 16)) 0 9 (some 16)) 21)) 0 10 (some 21)) 0 11 (some 22)) 37)) dX11_init_91 kX11_58 bX9_init rfl rfl iX9_init (Nat.le_of_ble_eq_true rfl) (by decide) (by decide) (by decide) (rX9_init (by decide) rfl) (fun m hm => ?_)
  subst hm
  refine mm_putR (pc := 94) (ci := 11) (N := 19) dX11_init_94 fX11_59 (ct_sh sh_0 (by decide)) (by decide +kernel) rfl ?_
  refine mm_aload_n (pc := 97) (j := 0) dX11_init_97 rfl rfl ?_
  refine ct_newo (pc := 98) (c := 42) (k := 41) (n := 7043) (ci := 9) (N := 7) dX11_init_98 rfl qX11_24 qi9 qn9 qk9 (by decide) (by decide) sh_42 ?_
  refine mm_dup (pc := 101) dX11_init_101 rfl ?_
  refine ct_callIN (pc := 102) (c := 43) (c' := 47) (k := 42) (n := 7050) (mc' := 4) (ms' := 118) (K := fun m => m = mm_IX9_init 42 (mm_new (mm_uR (mm_IX9_init 37 (mm_new (mm_uR (mm_uR (mm_IX1_init (mm_new (mm_uR (mm_IX0_init (mm_new (mm_uR (mm_IX2_init (mm_new (mm_uR (mm_new (mm_uI (mm_uI (mm_uR (mm_new (mm_uR (mm_new M 1) 0 0 (some 1)) 2) 0 2 (some 2)) 0 4 (-1)) 0 5 1) 3) 0 6 (some 3)) 4)) 0 8 (some 4)) 16)) 0 9 (some 16)) 21)) 0 10 (some 21)) 0 11 (some 22)) 37)) 0 12 (some 37)) 42)) dX11_init_102 kX11_58 bX9_init rfl rfl iX9_init (Nat.le_of_ble_eq_true rfl) (by decide) (by decide) (by decide) (rX9_init (by decide) rfl) (fun m hm => ?_)
  subst hm
  refine mm_putR (pc := 105) (ci := 11) (N := 19) dX11_init_105 fX11_63 (ct_sh sh_0 (by decide)) (by decide +kernel) rfl ?_
  refine mm_aload_n (pc := 108) (j := 0) dX11_init_108 rfl rfl ?_
  refine ct_newo (pc := 109) (c := 47) (k := 46) (n := 7168) (ci := 4) (N := 3) dX11_init_109 rfl qX11_66 qi4 qn4 qk4 (by decide) (by decide) sh_47 ?_
  refine mm_dup (pc := 112) dX11_init_112 rfl ?_
  refine ct_callI (pc := 113) (c := 48) (c' := 149) (k := 47) (n := 7171) (mc' := 101) (ms' := 2520) (K := fun m => m = mm_IX4_init (mm_new (mm_uR (mm_IX9_init 42 (mm_new (mm_uR (mm_IX9_init 37 (mm_new (mm_uR (mm_uR (mm_IX1_init (mm_new (mm_uR (mm_IX0_init (mm_new (mm_uR (mm_IX2_init (mm_new (mm_uR (mm_new (mm_uI (mm_uI (mm_uR (mm_new (mm_uR (mm_new M 1) 0 0 (some 1)) 2) 0 2 (some 2)) 0 4 (-1)) 0 5 1) 3) 0 6 (some 3)) 4)) 0 8 (some 4)) 16)) 0 9 (some 16)) 21)) 0 10 (some 21)) 0 11 (some 22)) 37)) 0 12 (some 37)) 42)) 0 13 (some 42)) 47)) dX11_init_113 kX11_68 bX4_init rfl rfl iX4_init (Nat.le_of_ble_eq_true rfl) (by decide) (by decide) (by decide) (rX4_init rfl) (fun m hm => ?_)
  subst hm
  refine mm_putR (pc := 116) (ci := 11) (N := 19) dX11_init_116 fX11_69 (ct_sh sh_0 (by decide)) (by decide +kernel) rfl ?_
  refine mm_aload_n (pc := 119) (j := 0) dX11_init_119 rfl rfl ?_
  refine ct_newo (pc := 120) (c := 149) (k := 148) (n := 9691) (ci := 10) (N := 11) dX11_init_120 rfl qX11_73 qi10 qn10 qk10 (by decide) (by decide) sh_149 ?_
  refine mm_dup (pc := 123) dX11_init_123 rfl ?_
  refine ct_callIN (pc := 124) (c := 150) (c' := 156) (k := 149) (n := 9702) (mc' := 6) (ms' := 1233) (K := fun m => m = mm_IX10_init (mm_new (mm_uR (mm_IX4_init (mm_new (mm_uR (mm_IX9_init 42 (mm_new (mm_uR (mm_IX9_init 37 (mm_new (mm_uR (mm_uR (mm_IX1_init (mm_new (mm_uR (mm_IX0_init (mm_new (mm_uR (mm_IX2_init (mm_new (mm_uR (mm_new (mm_uI (mm_uI (mm_uR (mm_new (mm_uR (mm_new M 1) 0 0 (some 1)) 2) 0 2 (some 2)) 0 4 (-1)) 0 5 1) 3) 0 6 (some 3)) 4)) 0 8 (some 4)) 16)) 0 9 (some 16)) 21)) 0 10 (some 21)) 0 11 (some 22)) 37)) 0 12 (some 37)) 42)) 0 13 (some 42)) 47)) 0 14 (some 47)) 149)) dX11_init_124 kX11_75 bX10_init rfl rfl iX10_init (Nat.le_of_ble_eq_true rfl) (by decide) (by decide) (by decide) (rX10_init rfl) (fun m hm => ?_)
  subst hm
  refine mm_putR (pc := 127) (ci := 11) (N := 19) dX11_init_127 fX11_76 (ct_sh sh_0 (by decide)) (by decide +kernel) rfl ?_
  refine mm_aload_n (pc := 130) (j := 0) dX11_init_130 rfl rfl ?_
  refine ct_newo (pc := 131) (c := 156) (k := 155) (n := 10935) (ci := 3) (N := 6) dX11_init_131 rfl qX11_80 qi3 qn3 qk3 (by decide) (by decide) sh_156 ?_
  refine mm_dup (pc := 134) dX11_init_134 rfl ?_
  refine ct_callIN (pc := 135) (c := 157) (c' := 159) (k := 156) (n := 10941) (mc' := 2) (ms' := 906) (K := fun m => m = mm_IX3_init (mm_new (mm_uR (mm_IX10_init (mm_new (mm_uR (mm_IX4_init (mm_new (mm_uR (mm_IX9_init 42 (mm_new (mm_uR (mm_IX9_init 37 (mm_new (mm_uR (mm_uR (mm_IX1_init (mm_new (mm_uR (mm_IX0_init (mm_new (mm_uR (mm_IX2_init (mm_new (mm_uR (mm_new (mm_uI (mm_uI (mm_uR (mm_new (mm_uR (mm_new M 1) 0 0 (some 1)) 2) 0 2 (some 2)) 0 4 (-1)) 0 5 1) 3) 0 6 (some 3)) 4)) 0 8 (some 4)) 16)) 0 9 (some 16)) 21)) 0 10 (some 21)) 0 11 (some 22)) 37)) 0 12 (some 37)) 42)) 0 13 (some 42)) 47)) 0 14 (some 47)) 149)) 0 15 (some 149)) 156)) dX11_init_135 kX11_82 bX3_init rfl rfl iX3_init (Nat.le_of_ble_eq_true rfl) (by decide) (by decide) (by decide) (rX3_init rfl) (fun m hm => ?_)
  subst hm
  refine mm_putR (pc := 138) (ci := 11) (N := 19) dX11_init_138 fX11_83 (ct_sh sh_0 (by decide)) (by decide +kernel) rfl ?_
  refine mm_aload_n (pc := 141) (j := 0) dX11_init_141 rfl rfl ?_
  refine ct_newo (pc := 142) (c := 159) (k := 158) (n := 11847) (ci := 8) (N := 15) dX11_init_142 rfl qX11_87 qi8 qn8 qk8 (by decide) (by decide) sh_159 ?_
  refine mm_dup (pc := 145) dX11_init_145 rfl ?_
  refine ct_callIN (pc := 146) (c := 160) (c' := 164) (k := 159) (n := 11862) (mc' := 4) (ms' := 3376) (K := fun m => m = mm_IX8_init (mm_new (mm_uR (mm_IX3_init (mm_new (mm_uR (mm_IX10_init (mm_new (mm_uR (mm_IX4_init (mm_new (mm_uR (mm_IX9_init 42 (mm_new (mm_uR (mm_IX9_init 37 (mm_new (mm_uR (mm_uR (mm_IX1_init (mm_new (mm_uR (mm_IX0_init (mm_new (mm_uR (mm_IX2_init (mm_new (mm_uR (mm_new (mm_uI (mm_uI (mm_uR (mm_new (mm_uR (mm_new M 1) 0 0 (some 1)) 2) 0 2 (some 2)) 0 4 (-1)) 0 5 1) 3) 0 6 (some 3)) 4)) 0 8 (some 4)) 16)) 0 9 (some 16)) 21)) 0 10 (some 21)) 0 11 (some 22)) 37)) 0 12 (some 37)) 42)) 0 13 (some 42)) 47)) 0 14 (some 47)) 149)) 0 15 (some 149)) 156)) 0 16 (some 156)) 159)) dX11_init_146 kX11_89 bX8_init rfl rfl iX8_init (Nat.le_of_ble_eq_true rfl) (by decide) (by decide) (by decide) (rX8_init rfl) (fun m hm => ?_)
  subst hm
  refine mm_putR (pc := 149) (ci := 11) (N := 19) dX11_init_149 fX11_90 (ct_sh sh_0 (by decide)) (by decide +kernel) rfl ?_
  exact mm_vret (pc := 152) dX11_init_152 rfl (by decide) (by decide) ⟨rfl, rfl, h⟩
set_option maxRecDepth 100000 in
def mm_IX12_init (M : mm_M) : mm_M := mm_uR (mm_new (mm_uR (mm_new (mm_uR (mm_new (mm_uR (mm_new (mm_uR (mm_uI (mm_uI (mm_uI (mm_uI (mm_uI (mm_uI (mm_new (mm_uR (mm_uI (mm_uI (mm_uI (mm_uI (mm_new (mm_uR (mm_uI (mm_uI (mm_uI (mm_uI (mm_uI (mm_new (mm_uR (mm_uI (mm_uI (mm_uI (mm_uI (mm_uI (mm_uI (mm_new (mm_uR (mm_uI (mm_uI (mm_uI (mm_uI (mm_uI (mm_uI (mm_new (mm_uR (mm_uI (mm_uI (mm_uI (mm_uI (mm_new (mm_uR (mm_uI (mm_uI (mm_uI (mm_new (mm_uR (mm_uI (mm_uI (mm_uI (mm_uI (mm_uI (mm_uI (mm_new (mm_uR (mm_uI (mm_uI (mm_uI (mm_uI (mm_new (mm_uR (mm_uI (mm_uI (mm_uI (mm_uI (mm_uI (mm_new (mm_uR (mm_uI (mm_uI (mm_uI (mm_new (mm_uR (mm_uI (mm_uI (mm_uI (mm_new (mm_uR (mm_uI (mm_uI (mm_uI (mm_new (mm_uR (mm_uI (mm_uI (mm_new (mm_uR (mm_uI (mm_uI (mm_uI (mm_new (mm_uR (mm_uI (mm_uI (mm_uI (mm_new (mm_uR (mm_uI (mm_uI (mm_uI (mm_uI (mm_uI (mm_new (mm_uR (mm_uI (mm_uI (mm_uI (mm_uI (mm_new (mm_uR (mm_uI (mm_uI (mm_uI (mm_uI (mm_uI (mm_new (mm_uR (mm_uI (mm_uI (mm_uI (mm_uI (mm_uI (mm_new (mm_uR (mm_uI (mm_uI (mm_uI (mm_uI (mm_new (mm_uR (mm_uI (mm_uI (mm_uI (mm_uI (mm_uI (mm_new (mm_uL (mm_uR (mm_new (mm_uR (mm_new (mm_uR (mm_new (mm_uR (mm_new (mm_uR (mm_new (mm_uR (mm_new (mm_uR (mm_new (mm_uR (mm_new (mm_uR (mm_new (mm_uR (mm_new (mm_uR (mm_new (mm_uR (mm_new (mm_uR (mm_new (mm_uR (mm_new (mm_uR (mm_new (mm_uR (mm_new (mm_uR (mm_new (mm_uR (mm_new (mm_uR (mm_new (mm_uR (mm_new (mm_uR (mm_uI (mm_uI (mm_uI (mm_uI (mm_uI (mm_uI (mm_uI (mm_uI (mm_uI (mm_uI (mm_new (mm_uR (mm_new (mm_uR (mm_new (mm_uR (mm_new (mm_uR (mm_new (mm_uR (mm_new (mm_uR (mm_uI (mm_uI (mm_uI (mm_new (mm_uR (mm_uI (mm_uI (mm_uI (mm_new (mm_uR (mm_uI (mm_uI (mm_uI (mm_new (mm_uR (mm_uI (mm_uI (mm_uI (mm_new (mm_uR (mm_uI (mm_uI (mm_uI (mm_new (mm_uR (mm_uI (mm_uI (mm_new (mm_uR (mm_uI (mm_uI (mm_uI (mm_uI (mm_uI (mm_new (mm_uR (mm_uI (mm_uI (mm_uI (mm_uI (mm_uI (mm_uI (mm_new (mm_uR (mm_uI (mm_uI (mm_uI (mm_uI (mm_uI (mm_uI (mm_new (mm_uR (mm_uI (mm_uI (mm_uI (mm_uI (mm_uI (mm_uI (mm_new (mm_uR (mm_uI (mm_uI (mm_uI (mm_new (mm_uR (mm_uI (mm_uI (mm_uI (mm_uI (mm_uI (mm_uI (mm_new (mm_uR (mm_uI (mm_uI (mm_uI (mm_uI (mm_uI (mm_new (mm_uR (mm_uI (mm_uI (mm_uI (mm_uI (mm_uI (mm_new (mm_uR (mm_uI (mm_uI (mm_uI (mm_uI (mm_uI (mm_uI (mm_uI (mm_new (mm_uR (mm_uI (mm_uI (mm_uI (mm_uI (mm_uI (mm_uI (mm_new (mm_uR (mm_uI (mm_uI (mm_uI (mm_uI (mm_uI (mm_new (mm_uR (mm_uI (mm_uI (mm_uI (mm_uI (mm_new (mm_uR (mm_uI (mm_uI (mm_uI (mm_uI (mm_new (mm_uR (mm_uI (mm_uI (mm_uI (mm_uI (mm_new (mm_uR (mm_uI (mm_uI (mm_uI (mm_uI (mm_new (mm_uR (mm_uI (mm_uI (mm_uI (mm_uI (mm_uI (mm_new (mm_uR (mm_uI (mm_uI (mm_uI (mm_uI (mm_uI (mm_new (mm_uR (mm_uI (mm_uI (mm_uI (mm_uI (mm_new (mm_uR (mm_new (mm_uI (mm_uR (mm_new M 165) 164 0 (some 165)) 164 8 (-1)) 166) 164 9 (some 166)) 167) 167 (0 : Int32).toNatClampNeg (vp_nar .char 108)) 167 (1 : Int32).toNatClampNeg (vp_nar .char 111)) 167 (2 : Int32).toNatClampNeg (vp_nar .char 97)) 167 (3 : Int32).toNatClampNeg (vp_nar .char 102)) 164 11 (some 167)) 168) 168 (0 : Int32).toNatClampNeg (vp_nar .char 104)) 168 (1 : Int32).toNatClampNeg (vp_nar .char 111)) 168 (2 : Int32).toNatClampNeg (vp_nar .char 117)) 168 (3 : Int32).toNatClampNeg (vp_nar .char 115)) 168 (4 : Int32).toNatClampNeg (vp_nar .char 101)) 164 12 (some 168)) 169) 169 (0 : Int32).toNatClampNeg (vp_nar .char 102)) 169 (1 : Int32).toNatClampNeg (vp_nar .char 108)) 169 (2 : Int32).toNatClampNeg (vp_nar .char 111)) 169 (3 : Int32).toNatClampNeg (vp_nar .char 117)) 169 (4 : Int32).toNatClampNeg (vp_nar .char 114)) 164 13 (some 169)) 170) 170 (0 : Int32).toNatClampNeg (vp_nar .char 115)) 170 (1 : Int32).toNatClampNeg (vp_nar .char 97)) 170 (2 : Int32).toNatClampNeg (vp_nar .char 108)) 170 (3 : Int32).toNatClampNeg (vp_nar .char 116)) 164 14 (some 170)) 171) 171 (0 : Int32).toNatClampNeg (vp_nar .char 102)) 171 (1 : Int32).toNatClampNeg (vp_nar .char 101)) 171 (2 : Int32).toNatClampNeg (vp_nar .char 117)) 171 (3 : Int32).toNatClampNeg (vp_nar .char 100)) 164 15 (some 171)) 172) 172 (0 : Int32).toNatClampNeg (vp_nar .char 119)) 172 (1 : Int32).toNatClampNeg (vp_nar .char 105)) 172 (2 : Int32).toNatClampNeg (vp_nar .char 116)) 172 (3 : Int32).toNatClampNeg (vp_nar .char 104)) 164 16 (some 172)) 173) 173 (0 : Int32).toNatClampNeg (vp_nar .char 104)) 173 (1 : Int32).toNatClampNeg (vp_nar .char 97)) 173 (2 : Int32).toNatClampNeg (vp_nar .char 116)) 173 (3 : Int32).toNatClampNeg (vp_nar .char 101)) 164 17 (some 173)) 174) 174 (0 : Int32).toNatClampNeg (vp_nar .char 98)) 174 (1 : Int32).toNatClampNeg (vp_nar .char 97)) 174 (2 : Int32).toNatClampNeg (vp_nar .char 107)) 174 (3 : Int32).toNatClampNeg (vp_nar .char 101)) 174 (4 : Int32).toNatClampNeg (vp_nar .char 115)) 164 18 (some 174)) 175) 175 (0 : Int32).toNatClampNeg (vp_nar .char 116)) 175 (1 : Int32).toNatClampNeg (vp_nar .char 97)) 175 (2 : Int32).toNatClampNeg (vp_nar .char 115)) 175 (3 : Int32).toNatClampNeg (vp_nar .char 116)) 175 (4 : Int32).toNatClampNeg (vp_nar .char 101)) 175 (5 : Int32).toNatClampNeg (vp_nar .char 115)) 164 19 (some 175)) 176) 176 (0 : Int32).toNatClampNeg (vp_nar .char 115)) 176 (1 : Int32).toNatClampNeg (vp_nar .char 116)) 176 (2 : Int32).toNatClampNeg (vp_nar .char 97)) 176 (3 : Int32).toNatClampNeg (vp_nar .char 114)) 176 (4 : Int32).toNatClampNeg (vp_nar .char 118)) 176 (5 : Int32).toNatClampNeg (vp_nar .char 101)) 176 (6 : Int32).toNatClampNeg (vp_nar .char 115)) 164 20 (some 176)) 177) 177 (0 : Int32).toNatClampNeg (vp_nar .char 99)) 177 (1 : Int32).toNatClampNeg (vp_nar .char 111)) 177 (2 : Int32).toNatClampNeg (vp_nar .char 111)) 177 (3 : Int32).toNatClampNeg (vp_nar .char 108)) 177 (4 : Int32).toNatClampNeg (vp_nar .char 115)) 164 21 (some 177)) 178) 178 (0 : Int32).toNatClampNeg (vp_nar .char 103)) 178 (1 : Int32).toNatClampNeg (vp_nar .char 114)) 178 (2 : Int32).toNatClampNeg (vp_nar .char 111)) 178 (3 : Int32).toNatClampNeg (vp_nar .char 119)) 178 (4 : Int32).toNatClampNeg (vp_nar .char 115)) 164 22 (some 178)) 179) 179 (0 : Int32).toNatClampNeg (vp_nar .char 102)) 179 (1 : Int32).toNatClampNeg (vp_nar .char 97)) 179 (2 : Int32).toNatClampNeg (vp_nar .char 109)) 179 (3 : Int32).toNatClampNeg (vp_nar .char 105)) 179 (4 : Int32).toNatClampNeg (vp_nar .char 110)) 179 (5 : Int32).toNatClampNeg (vp_nar .char 101)) 164 23 (some 179)) 180) 180 (0 : Int32).toNatClampNeg (vp_nar .char 100)) 180 (1 : Int32).toNatClampNeg (vp_nar .char 97)) 180 (2 : Int32).toNatClampNeg (vp_nar .char 121)) 164 24 (some 180)) 181) 181 (0 : Int32).toNatClampNeg (vp_nar .char 104)) 181 (1 : Int32).toNatClampNeg (vp_nar .char 117)) 181 (2 : Int32).toNatClampNeg (vp_nar .char 110)) 181 (3 : Int32).toNatClampNeg (vp_nar .char 103)) 181 (4 : Int32).toNatClampNeg (vp_nar .char 101)) 181 (5 : Int32).toNatClampNeg (vp_nar .char 114)) 164 25 (some 181)) 182) 182 (0 : Int32).toNatClampNeg (vp_nar .char 108)) 182 (1 : Int32).toNatClampNeg (vp_nar .char 111)) 182 (2 : Int32).toNatClampNeg (vp_nar .char 97)) 182 (3 : Int32).toNatClampNeg (vp_nar .char 118)) 182 (4 : Int32).toNatClampNeg (vp_nar .char 101)) 182 (5 : Int32).toNatClampNeg (vp_nar .char 115)) 164 26 (some 182)) 183) 183 (0 : Int32).toNatClampNeg (vp_nar .char 110)) 183 (1 : Int32).toNatClampNeg (vp_nar .char 117)) 183 (2 : Int32).toNatClampNeg (vp_nar .char 109)) 183 (3 : Int32).toNatClampNeg (vp_nar .char 98)) 183 (4 : Int32).toNatClampNeg (vp_nar .char 101)) 183 (5 : Int32).toNatClampNeg (vp_nar .char 114)) 164 27 (some 183)) 184) 184 (0 : Int32).toNatClampNeg (vp_nar .char 102)) 184 (1 : Int32).toNatClampNeg (vp_nar .char 101)) 184 (2 : Int32).toNatClampNeg (vp_nar .char 117)) 184 (3 : Int32).toNatClampNeg (vp_nar .char 100)) 184 (4 : Int32).toNatClampNeg (vp_nar .char 115)) 164 28 (some 184)) 185) 185 (0 : Int32).toNatClampNeg (vp_nar .char 111)) 185 (1 : Int32).toNatClampNeg (vp_nar .char 114)) 164 29 (some 185)) 186) 186 (0 : Int32).toNatClampNeg (vp_nar .char 97)) 186 (1 : Int32).toNatClampNeg (vp_nar .char 110)) 186 (2 : Int32).toNatClampNeg (vp_nar .char 100)) 164 30 (some 186)) 187) 187 (0 : Int32).toNatClampNeg (vp_nar .char 110)) 187 (1 : Int32).toNatClampNeg (vp_nar .char 111)) 187 (2 : Int32).toNatClampNeg (vp_nar .char 116)) 164 31 (some 187)) 188) 188 (0 : Int32).toNatClampNeg (vp_nar .char 97)) 188 (1 : Int32).toNatClampNeg (vp_nar .char 108)) 188 (2 : Int32).toNatClampNeg (vp_nar .char 108)) 164 32 (some 188)) 189) 189 (0 : Int32).toNatClampNeg (vp_nar .char 109)) 189 (1 : Int32).toNatClampNeg (vp_nar .char 105)) 189 (2 : Int32).toNatClampNeg (vp_nar .char 110)) 164 33 (some 189)) 190) 190 (0 : Int32).toNatClampNeg (vp_nar .char 109)) 190 (1 : Int32).toNatClampNeg (vp_nar .char 97)) 190 (2 : Int32).toNatClampNeg (vp_nar .char 120)) 164 34 (some 190)) 191) 164 36 (some 191)) 192) 164 39 (some 192)) 193) 164 40 (some 193)) 194) 164 41 (some 194)) 195) 164 42 (some 195)) 196) 196 (0 : Int32).toNatClampNeg (-1)) 196 (1 : Int32).toNatClampNeg (-1)) 196 (2 : Int32).toNatClampNeg (-1)) 196 (3 : Int32).toNatClampNeg (-1)) 196 (4 : Int32).toNatClampNeg (-1)) 196 (5 : Int32).toNatClampNeg (-1)) 196 (6 : Int32).toNatClampNeg (-1)) 196 (7 : Int32).toNatClampNeg (-1)) 196 (8 : Int32).toNatClampNeg (-1)) 196 (9 : Int32).toNatClampNeg (-1)) 164 43 (some 196)) 197) 164 44 (some 197)) 198) 164 45 (some 198)) 199) 164 50 (some 199)) 200) 164 51 (some 200)) 201) 164 56 (some 201)) 202) 164 61 (some 202)) 203) 164 62 (some 203)) 204) 164 63 (some 204)) 205) 164 64 (some 205)) 206) 164 65 (some 206)) 207) 164 67 (some 207)) 208) 164 68 (some 208)) 209) 164 69 (some 209)) 210) 164 70 (some 210)) 211) 164 71 (some 211)) 212) 164 73 (some 212)) 213) 164 74 (some 213)) 214) 164 75 (some 214)) 215) 164 77 (some 215)) 216) 164 78 (some 216)) 164 81 1) 217) 217 (0 : Int32).toNatClampNeg (vp_nar .char 102)) 217 (1 : Int32).toNatClampNeg (vp_nar .char 105)) 217 (2 : Int32).toNatClampNeg (vp_nar .char 114)) 217 (3 : Int32).toNatClampNeg (vp_nar .char 115)) 217 (4 : Int32).toNatClampNeg (vp_nar .char 116)) 164 82 (some 217)) 218) 218 (0 : Int32).toNatClampNeg (vp_nar .char 108)) 218 (1 : Int32).toNatClampNeg (vp_nar .char 97)) 218 (2 : Int32).toNatClampNeg (vp_nar .char 115)) 218 (3 : Int32).toNatClampNeg (vp_nar .char 116)) 164 83 (some 218)) 219) 219 (0 : Int32).toNatClampNeg (vp_nar .char 111)) 219 (1 : Int32).toNatClampNeg (vp_nar .char 102)) 219 (2 : Int32).toNatClampNeg (vp_nar .char 116)) 219 (3 : Int32).toNatClampNeg (vp_nar .char 101)) 219 (4 : Int32).toNatClampNeg (vp_nar .char 110)) 164 84 (some 219)) 220) 220 (0 : Int32).toNatClampNeg (vp_nar .char 116)) 220 (1 : Int32).toNatClampNeg (vp_nar .char 111)) 220 (2 : Int32).toNatClampNeg (vp_nar .char 116)) 220 (3 : Int32).toNatClampNeg (vp_nar .char 97)) 220 (4 : Int32).toNatClampNeg (vp_nar .char 108)) 164 85 (some 220)) 221) 221 (0 : Int32).toNatClampNeg (vp_nar .char 109)) 221 (1 : Int32).toNatClampNeg (vp_nar .char 111)) 221 (2 : Int32).toNatClampNeg (vp_nar .char 115)) 221 (3 : Int32).toNatClampNeg (vp_nar .char 116)) 164 86 (some 221)) 222) 222 (0 : Int32).toNatClampNeg (vp_nar .char 108)) 222 (1 : Int32).toNatClampNeg (vp_nar .char 101)) 222 (2 : Int32).toNatClampNeg (vp_nar .char 97)) 222 (3 : Int32).toNatClampNeg (vp_nar .char 115)) 222 (4 : Int32).toNatClampNeg (vp_nar .char 116)) 164 87 (some 222)) 223) 223 (0 : Int32).toNatClampNeg (vp_nar .char 110)) 223 (1 : Int32).toNatClampNeg (vp_nar .char 111)) 223 (2 : Int32).toNatClampNeg (vp_nar .char 116)) 164 88 (some 223)) 224) 224 (0 : Int32).toNatClampNeg (vp_nar .char 97)) 224 (1 : Int32).toNatClampNeg (vp_nar .char 110)) 224 (2 : Int32).toNatClampNeg (vp_nar .char 100)) 164 89 (some 224)) 225) 225 (0 : Int32).toNatClampNeg (vp_nar .char 111)) 225 (1 : Int32).toNatClampNeg (vp_nar .char 114)) 164 90 (some 225)) 226) 226 (0 : Int32).toNatClampNeg (vp_nar .char 97)) 226 (1 : Int32).toNatClampNeg (vp_nar .char 108)) 226 (2 : Int32).toNatClampNeg (vp_nar .char 108)) 164 91 (some 226)) 227) 227 (0 : Int32).toNatClampNeg (vp_nar .char 109)) 227 (1 : Int32).toNatClampNeg (vp_nar .char 105)) 227 (2 : Int32).toNatClampNeg (vp_nar .char 110)) 164 92 (some 227)) 228) 228 (0 : Int32).toNatClampNeg (vp_nar .char 109)) 228 (1 : Int32).toNatClampNeg (vp_nar .char 97)) 228 (2 : Int32).toNatClampNeg (vp_nar .char 120)) 164 93 (some 228)) 229) 229 (0 : Int32).toNatClampNeg (vp_nar .char 102)) 229 (1 : Int32).toNatClampNeg (vp_nar .char 108)) 229 (2 : Int32).toNatClampNeg (vp_nar .char 111)) 229 (3 : Int32).toNatClampNeg (vp_nar .char 117)) 229 (4 : Int32).toNatClampNeg (vp_nar .char 114)) 164 94 (some 229)) 230) 230 (0 : Int32).toNatClampNeg (vp_nar .char 115)) 230 (1 : Int32).toNatClampNeg (vp_nar .char 97)) 230 (2 : Int32).toNatClampNeg (vp_nar .char 108)) 230 (3 : Int32).toNatClampNeg (vp_nar .char 116)) 164 95 (some 230)) 231) 231 (0 : Int32).toNatClampNeg (vp_nar .char 104)) 231 (1 : Int32).toNatClampNeg (vp_nar .char 117)) 231 (2 : Int32).toNatClampNeg (vp_nar .char 110)) 231 (3 : Int32).toNatClampNeg (vp_nar .char 103)) 231 (4 : Int32).toNatClampNeg (vp_nar .char 101)) 231 (5 : Int32).toNatClampNeg (vp_nar .char 114)) 164 96 (some 231)) 232) 232 (0 : Int32).toNatClampNeg (vp_nar .char 100)) 232 (1 : Int32).toNatClampNeg (vp_nar .char 97)) 232 (2 : Int32).toNatClampNeg (vp_nar .char 121)) 164 97 (some 232)) 233) 233 (0 : Int32).toNatClampNeg (vp_nar .char 104)) 233 (1 : Int32).toNatClampNeg (vp_nar .char 97)) 233 (2 : Int32).toNatClampNeg (vp_nar .char 116)) 233 (3 : Int32).toNatClampNeg (vp_nar .char 101)) 164 98 (some 233)) 234) 234 (0 : Int32).toNatClampNeg (vp_nar .char 108)) 234 (1 : Int32).toNatClampNeg (vp_nar .char 111)) 234 (2 : Int32).toNatClampNeg (vp_nar .char 97)) 234 (3 : Int32).toNatClampNeg (vp_nar .char 118)) 234 (4 : Int32).toNatClampNeg (vp_nar .char 101)) 234 (5 : Int32).toNatClampNeg (vp_nar .char 115)) 164 99 (some 234)) 235) 235 (0 : Int32).toNatClampNeg (vp_nar .char 110)) 235 (1 : Int32).toNatClampNeg (vp_nar .char 117)) 235 (2 : Int32).toNatClampNeg (vp_nar .char 109)) 235 (3 : Int32).toNatClampNeg (vp_nar .char 98)) 235 (4 : Int32).toNatClampNeg (vp_nar .char 101)) 235 (5 : Int32).toNatClampNeg (vp_nar .char 114)) 164 100 (some 235)) 236) 236 (0 : Int32).toNatClampNeg (vp_nar .char 102)) 236 (1 : Int32).toNatClampNeg (vp_nar .char 101)) 236 (2 : Int32).toNatClampNeg (vp_nar .char 117)) 236 (3 : Int32).toNatClampNeg (vp_nar .char 100)) 236 (4 : Int32).toNatClampNeg (vp_nar .char 115)) 164 101 (some 236)) 237) 237 (0 : Int32).toNatClampNeg (vp_nar .char 104)) 237 (1 : Int32).toNatClampNeg (vp_nar .char 97)) 237 (2 : Int32).toNatClampNeg (vp_nar .char 116)) 237 (3 : Int32).toNatClampNeg (vp_nar .char 101)) 164 102 (some 237)) 238) 238 (0 : Int32).toNatClampNeg (vp_nar .char 116)) 238 (1 : Int32).toNatClampNeg (vp_nar .char 97)) 238 (2 : Int32).toNatClampNeg (vp_nar .char 115)) 238 (3 : Int32).toNatClampNeg (vp_nar .char 116)) 238 (4 : Int32).toNatClampNeg (vp_nar .char 101)) 238 (5 : Int32).toNatClampNeg (vp_nar .char 115)) 164 103 (some 238)) 239) 164 104 (some 239)) 240) 164 106 (some 240)) 241) 164 110 (some 241)) 242) 164 114 (some 242)
set_option maxRecDepth 100000 in
set_option maxHeartbeats 8000000 in
theorem rX12_init {d : Nat} {M : mm_M} {K : mm_M → Prop} (h : K (mm_IX12_init M)) : mm_CT mX12_init (d + 1) 78 39588 [.ref 164] 165 243 M K := by
  show mm_W mX12_init (d + 1) 78 39588 0 [(0, .ref 164)] [] (mm_SH.take 165) M 0 0 _
  unfold mm_IX12_init at h
  refine mm_aload_n (pc := 0) (j := 0) dX12_init_0 rfl rfl ?_
  refine mm_objInit (pc := 1) dX12_init_1 kX12_1 oi_in oi_co (Nat.le_of_ble_eq_true rfl) ?_
  refine mm_aload_n (pc := 4) (j := 0) dX12_init_4 rfl rfl ?_
  refine mm_sipush (pc := 5) (x := 1600) dX12_init_5 rfl ?_
  refine ct_newarr (pc := 8) (c := 165) (k := 0) (n := 0) (N := 1600) dX12_init_8 rfl (Or.inl ⟨rfl, rfl⟩) qa0 (by decide +kernel) (by decide +kernel) (by decide +kernel) (by decide) (by decide) sh_165 ?_
  refine mm_putR (pc := 10) (ci := 12) (N := 116) dX12_init_10 fX12_7 (ct_sh sh_164 (by decide)) (by decide +kernel) rfl ?_
  refine mm_aload_n (pc := 13) (j := 0) dX12_init_13 rfl rfl ?_
  refine mm_iconst (pc := 14) (x := (-1)) dX12_init_14 rfl ?_
  refine mm_putI (pc := 15) (ci := 12) (N := 116) dX12_init_15 fX12_13 (ct_sh sh_164 (by decide)) (by decide +kernel) rfl rfl rfl ?_
  refine mm_aload_n (pc := 18) (j := 0) dX12_init_18 rfl rfl ?_
  refine mm_bipush (pc := 19) (x := 6) dX12_init_19 rfl ?_
  refine ct_newarr (pc := 21) (c := 166) (k := 1) (n := 1600) (N := 6) dX12_init_21 rfl (Or.inl ⟨rfl, rfl⟩) qa0 (by decide +kernel) (by decide +kernel) (by decide +kernel) (by decide) (by decide) sh_166 ?_
  refine mm_putR (pc := 23) (ci := 12) (N := 116) dX12_init_23 fX12_17 (ct_sh sh_164 (by decide)) (by decide +kernel) rfl ?_
  refine mm_aload_n (pc := 26) (j := 0) dX12_init_26 rfl rfl ?_
  refine mm_iconst (pc := 27) (x := 4) dX12_init_27 rfl ?_
  refine ct_newarr (pc := 28) (c := 167) (k := 2) (n := 1606) (N := 4) dX12_init_28 rfl (Or.inr (Or.inr (Or.inl ⟨rfl, rfl⟩))) qa2 (by decide +kernel) (by decide +kernel) (by decide +kernel) (by decide) (by decide) sh_167 ?_
  refine mm_dup (pc := 30) dX12_init_30 rfl ?_
  refine mm_iconst (pc := 31) (x := 0) dX12_init_31 rfl ?_
  refine mm_bipush (pc := 32) (x := 108) dX12_init_32 rfl ?_
  refine mm_castore (pc := 34) (N := 4) dX12_init_34 (ct_sh sh_167 (by decide)) (mm_vin (k := 0) rfl (by decide) (by decide)) ?_
  refine mm_dup (pc := 35) dX12_init_35 rfl ?_
  refine mm_iconst (pc := 36) (x := 1) dX12_init_36 rfl ?_
  refine mm_bipush (pc := 37) (x := 111) dX12_init_37 rfl ?_
  refine mm_castore (pc := 39) (N := 4) dX12_init_39 (ct_sh sh_167 (by decide)) (mm_vin (k := 1) rfl (by decide) (by decide)) ?_
  refine mm_dup (pc := 40) dX12_init_40 rfl ?_
  refine mm_iconst (pc := 41) (x := 2) dX12_init_41 rfl ?_
  refine mm_bipush (pc := 42) (x := 97) dX12_init_42 rfl ?_
  refine mm_castore (pc := 44) (N := 4) dX12_init_44 (ct_sh sh_167 (by decide)) (mm_vin (k := 2) rfl (by decide) (by decide)) ?_
  refine mm_dup (pc := 45) dX12_init_45 rfl ?_
  refine mm_iconst (pc := 46) (x := 3) dX12_init_46 rfl ?_
  refine mm_bipush (pc := 47) (x := 102) dX12_init_47 rfl ?_
  refine mm_castore (pc := 49) (N := 4) dX12_init_49 (ct_sh sh_167 (by decide)) (mm_vin (k := 3) rfl (by decide) (by decide)) ?_
  refine mm_putR (pc := 50) (ci := 12) (N := 116) dX12_init_50 fX12_20 (ct_sh sh_164 (by decide)) (by decide +kernel) rfl ?_
  refine mm_aload_n (pc := 53) (j := 0) dX12_init_53 rfl rfl ?_
  refine mm_iconst (pc := 54) (x := 5) dX12_init_54 rfl ?_
  refine ct_newarr (pc := 55) (c := 168) (k := 3) (n := 1610) (N := 5) dX12_init_55 rfl (Or.inr (Or.inr (Or.inl ⟨rfl, rfl⟩))) qa2 (by decide +kernel) (by decide +kernel) (by decide +kernel) (by decide) (by decide) sh_168 ?_
  refine mm_dup (pc := 57) dX12_init_57 rfl ?_
  refine mm_iconst (pc := 58) (x := 0) dX12_init_58 rfl ?_
  refine mm_bipush (pc := 59) (x := 104) dX12_init_59 rfl ?_
  refine mm_castore (pc := 61) (N := 5) dX12_init_61 (ct_sh sh_168 (by decide)) (mm_vin (k := 0) rfl (by decide) (by decide)) ?_
  refine mm_dup (pc := 62) dX12_init_62 rfl ?_
  refine mm_iconst (pc := 63) (x := 1) dX12_init_63 rfl ?_
  refine mm_bipush (pc := 64) (x := 111) dX12_init_64 rfl ?_
  refine mm_castore (pc := 66) (N := 5) dX12_init_66 (ct_sh sh_168 (by decide)) (mm_vin (k := 1) rfl (by decide) (by decide)) ?_
  refine mm_dup (pc := 67) dX12_init_67 rfl ?_
  refine mm_iconst (pc := 68) (x := 2) dX12_init_68 rfl ?_
  refine mm_bipush (pc := 69) (x := 117) dX12_init_69 rfl ?_
  refine mm_castore (pc := 71) (N := 5) dX12_init_71 (ct_sh sh_168 (by decide)) (mm_vin (k := 2) rfl (by decide) (by decide)) ?_
  refine mm_dup (pc := 72) dX12_init_72 rfl ?_
  refine mm_iconst (pc := 73) (x := 3) dX12_init_73 rfl ?_
  refine mm_bipush (pc := 74) (x := 115) dX12_init_74 rfl ?_
  refine mm_castore (pc := 76) (N := 5) dX12_init_76 (ct_sh sh_168 (by decide)) (mm_vin (k := 3) rfl (by decide) (by decide)) ?_
  refine mm_dup (pc := 77) dX12_init_77 rfl ?_
  refine mm_iconst (pc := 78) (x := 4) dX12_init_78 rfl ?_
  refine mm_bipush (pc := 79) (x := 101) dX12_init_79 rfl ?_
  refine mm_castore (pc := 81) (N := 5) dX12_init_81 (ct_sh sh_168 (by decide)) (mm_vin (k := 4) rfl (by decide) (by decide)) ?_
  refine mm_putR (pc := 82) (ci := 12) (N := 116) dX12_init_82 fX12_24 (ct_sh sh_164 (by decide)) (by decide +kernel) rfl ?_
  refine mm_aload_n (pc := 85) (j := 0) dX12_init_85 rfl rfl ?_
  refine mm_iconst (pc := 86) (x := 5) dX12_init_86 rfl ?_
  refine ct_newarr (pc := 87) (c := 169) (k := 4) (n := 1615) (N := 5) dX12_init_87 rfl (Or.inr (Or.inr (Or.inl ⟨rfl, rfl⟩))) qa2 (by decide +kernel) (by decide +kernel) (by decide +kernel) (by decide) (by decide) sh_169 ?_
  refine mm_dup (pc := 89) dX12_init_89 rfl ?_
  refine mm_iconst (pc := 90) (x := 0) dX12_init_90 rfl ?_
  refine mm_bipush (pc := 91) (x := 102) dX12_init_91 rfl ?_
  refine mm_castore (pc := 93) (N := 5) dX12_init_93 (ct_sh sh_169 (by decide)) (mm_vin (k := 0) rfl (by decide) (by decide)) ?_
  refine mm_dup (pc := 94) dX12_init_94 rfl ?_
  refine mm_iconst (pc := 95) (x := 1) dX12_init_95 rfl ?_
  refine mm_bipush (pc := 96) (x := 108) dX12_init_96 rfl ?_
  refine mm_castore (pc := 98) (N := 5) dX12_init_98 (ct_sh sh_169 (by decide)) (mm_vin (k := 1) rfl (by decide) (by decide)) ?_
  refine mm_dup (pc := 99) dX12_init_99 rfl ?_
  refine mm_iconst (pc := 100) (x := 2) dX12_init_100 rfl ?_
  refine mm_bipush (pc := 101) (x := 111) dX12_init_101 rfl ?_
  refine mm_castore (pc := 103) (N := 5) dX12_init_103 (ct_sh sh_169 (by decide)) (mm_vin (k := 2) rfl (by decide) (by decide)) ?_
  refine mm_dup (pc := 104) dX12_init_104 rfl ?_
  refine mm_iconst (pc := 105) (x := 3) dX12_init_105 rfl ?_
  refine mm_bipush (pc := 106) (x := 117) dX12_init_106 rfl ?_
  refine mm_castore (pc := 108) (N := 5) dX12_init_108 (ct_sh sh_169 (by decide)) (mm_vin (k := 3) rfl (by decide) (by decide)) ?_
  refine mm_dup (pc := 109) dX12_init_109 rfl ?_
  refine mm_iconst (pc := 110) (x := 4) dX12_init_110 rfl ?_
  refine mm_bipush (pc := 111) (x := 114) dX12_init_111 rfl ?_
  refine mm_castore (pc := 113) (N := 5) dX12_init_113 (ct_sh sh_169 (by decide)) (mm_vin (k := 4) rfl (by decide) (by decide)) ?_
  refine mm_putR (pc := 114) (ci := 12) (N := 116) dX12_init_114 fX12_27 (ct_sh sh_164 (by decide)) (by decide +kernel) rfl ?_
  refine mm_aload_n (pc := 117) (j := 0) dX12_init_117 rfl rfl ?_
  refine mm_iconst (pc := 118) (x := 4) dX12_init_118 rfl ?_
  refine ct_newarr (pc := 119) (c := 170) (k := 5) (n := 1620) (N := 4) dX12_init_119 rfl (Or.inr (Or.inr (Or.inl ⟨rfl, rfl⟩))) qa2 (by decide +kernel) (by decide +kernel) (by decide +kernel) (by decide) (by decide) sh_170 ?_
  refine mm_dup (pc := 121) dX12_init_121 rfl ?_
  refine mm_iconst (pc := 122) (x := 0) dX12_init_122 rfl ?_
  refine mm_bipush (pc := 123) (x := 115) dX12_init_123 rfl ?_
  refine mm_castore (pc := 125) (N := 4) dX12_init_125 (ct_sh sh_170 (by decide)) (mm_vin (k := 0) rfl (by decide) (by decide)) ?_
  refine mm_dup (pc := 126) dX12_init_126 rfl ?_
  refine mm_iconst (pc := 127) (x := 1) dX12_init_127 rfl ?_
  refine mm_bipush (pc := 128) (x := 97) dX12_init_128 rfl ?_
  refine mm_castore (pc := 130) (N := 4) dX12_init_130 (ct_sh sh_170 (by decide)) (mm_vin (k := 1) rfl (by decide) (by decide)) ?_
  refine mm_dup (pc := 131) dX12_init_131 rfl ?_
  refine mm_iconst (pc := 132) (x := 2) dX12_init_132 rfl ?_
  refine mm_bipush (pc := 133) (x := 108) dX12_init_133 rfl ?_
  refine mm_castore (pc := 135) (N := 4) dX12_init_135 (ct_sh sh_170 (by decide)) (mm_vin (k := 2) rfl (by decide) (by decide)) ?_
  refine mm_dup (pc := 136) dX12_init_136 rfl ?_
  refine mm_iconst (pc := 137) (x := 3) dX12_init_137 rfl ?_
  refine mm_bipush (pc := 138) (x := 116) dX12_init_138 rfl ?_
  refine mm_castore (pc := 140) (N := 4) dX12_init_140 (ct_sh sh_170 (by decide)) (mm_vin (k := 3) rfl (by decide) (by decide)) ?_
  refine mm_putR (pc := 141) (ci := 12) (N := 116) dX12_init_141 fX12_30 (ct_sh sh_164 (by decide)) (by decide +kernel) rfl ?_
  refine mm_aload_n (pc := 144) (j := 0) dX12_init_144 rfl rfl ?_
  refine mm_iconst (pc := 145) (x := 4) dX12_init_145 rfl ?_
  refine ct_newarr (pc := 146) (c := 171) (k := 6) (n := 1624) (N := 4) dX12_init_146 rfl (Or.inr (Or.inr (Or.inl ⟨rfl, rfl⟩))) qa2 (by decide +kernel) (by decide +kernel) (by decide +kernel) (by decide) (by decide) sh_171 ?_
  refine mm_dup (pc := 148) dX12_init_148 rfl ?_
  refine mm_iconst (pc := 149) (x := 0) dX12_init_149 rfl ?_
  refine mm_bipush (pc := 150) (x := 102) dX12_init_150 rfl ?_
  refine mm_castore (pc := 152) (N := 4) dX12_init_152 (ct_sh sh_171 (by decide)) (mm_vin (k := 0) rfl (by decide) (by decide)) ?_
  refine mm_dup (pc := 153) dX12_init_153 rfl ?_
  refine mm_iconst (pc := 154) (x := 1) dX12_init_154 rfl ?_
  refine mm_bipush (pc := 155) (x := 101) dX12_init_155 rfl ?_
  refine mm_castore (pc := 157) (N := 4) dX12_init_157 (ct_sh sh_171 (by decide)) (mm_vin (k := 1) rfl (by decide) (by decide)) ?_
  refine mm_dup (pc := 158) dX12_init_158 rfl ?_
  refine mm_iconst (pc := 159) (x := 2) dX12_init_159 rfl ?_
  refine mm_bipush (pc := 160) (x := 117) dX12_init_160 rfl ?_
  refine mm_castore (pc := 162) (N := 4) dX12_init_162 (ct_sh sh_171 (by decide)) (mm_vin (k := 2) rfl (by decide) (by decide)) ?_
  refine mm_dup (pc := 163) dX12_init_163 rfl ?_
  refine mm_iconst (pc := 164) (x := 3) dX12_init_164 rfl ?_
  refine mm_bipush (pc := 165) (x := 100) dX12_init_165 rfl ?_
  refine mm_castore (pc := 167) (N := 4) dX12_init_167 (ct_sh sh_171 (by decide)) (mm_vin (k := 3) rfl (by decide) (by decide)) ?_
  refine mm_putR (pc := 168) (ci := 12) (N := 116) dX12_init_168 fX12_33 (ct_sh sh_164 (by decide)) (by decide +kernel) rfl ?_
  refine mm_aload_n (pc := 171) (j := 0) dX12_init_171 rfl rfl ?_
  refine mm_iconst (pc := 172) (x := 4) dX12_init_172 rfl ?_
  refine ct_newarr (pc := 173) (c := 172) (k := 7) (n := 1628) (N := 4) dX12_init_173 rfl (Or.inr (Or.inr (Or.inl ⟨rfl, rfl⟩))) qa2 (by decide +kernel) (by decide +kernel) (by decide +kernel) (by decide) (by decide) sh_172 ?_
  refine mm_dup (pc := 175) dX12_init_175 rfl ?_
  refine mm_iconst (pc := 176) (x := 0) dX12_init_176 rfl ?_
  refine mm_bipush (pc := 177) (x := 119) dX12_init_177 rfl ?_
  refine mm_castore (pc := 179) (N := 4) dX12_init_179 (ct_sh sh_172 (by decide)) (mm_vin (k := 0) rfl (by decide) (by decide)) ?_
  refine mm_dup (pc := 180) dX12_init_180 rfl ?_
  refine mm_iconst (pc := 181) (x := 1) dX12_init_181 rfl ?_
  refine mm_bipush (pc := 182) (x := 105) dX12_init_182 rfl ?_
  refine mm_castore (pc := 184) (N := 4) dX12_init_184 (ct_sh sh_172 (by decide)) (mm_vin (k := 1) rfl (by decide) (by decide)) ?_
  refine mm_dup (pc := 185) dX12_init_185 rfl ?_
  refine mm_iconst (pc := 186) (x := 2) dX12_init_186 rfl ?_
  refine mm_bipush (pc := 187) (x := 116) dX12_init_187 rfl ?_
  refine mm_castore (pc := 189) (N := 4) dX12_init_189 (ct_sh sh_172 (by decide)) (mm_vin (k := 2) rfl (by decide) (by decide)) ?_
  refine mm_dup (pc := 190) dX12_init_190 rfl ?_
  refine mm_iconst (pc := 191) (x := 3) dX12_init_191 rfl ?_
  refine mm_bipush (pc := 192) (x := 104) dX12_init_192 rfl ?_
  refine mm_castore (pc := 194) (N := 4) dX12_init_194 (ct_sh sh_172 (by decide)) (mm_vin (k := 3) rfl (by decide) (by decide)) ?_
  refine mm_putR (pc := 195) (ci := 12) (N := 116) dX12_init_195 fX12_36 (ct_sh sh_164 (by decide)) (by decide +kernel) rfl ?_
  refine mm_aload_n (pc := 198) (j := 0) dX12_init_198 rfl rfl ?_
  refine mm_iconst (pc := 199) (x := 4) dX12_init_199 rfl ?_
  refine ct_newarr (pc := 200) (c := 173) (k := 8) (n := 1632) (N := 4) dX12_init_200 rfl (Or.inr (Or.inr (Or.inl ⟨rfl, rfl⟩))) qa2 (by decide +kernel) (by decide +kernel) (by decide +kernel) (by decide) (by decide) sh_173 ?_
  refine mm_dup (pc := 202) dX12_init_202 rfl ?_
  refine mm_iconst (pc := 203) (x := 0) dX12_init_203 rfl ?_
  refine mm_bipush (pc := 204) (x := 104) dX12_init_204 rfl ?_
  refine mm_castore (pc := 206) (N := 4) dX12_init_206 (ct_sh sh_173 (by decide)) (mm_vin (k := 0) rfl (by decide) (by decide)) ?_
  refine mm_dup (pc := 207) dX12_init_207 rfl ?_
  refine mm_iconst (pc := 208) (x := 1) dX12_init_208 rfl ?_
  refine mm_bipush (pc := 209) (x := 97) dX12_init_209 rfl ?_
  refine mm_castore (pc := 211) (N := 4) dX12_init_211 (ct_sh sh_173 (by decide)) (mm_vin (k := 1) rfl (by decide) (by decide)) ?_
  refine mm_dup (pc := 212) dX12_init_212 rfl ?_
  refine mm_iconst (pc := 213) (x := 2) dX12_init_213 rfl ?_
  refine mm_bipush (pc := 214) (x := 116) dX12_init_214 rfl ?_
  refine mm_castore (pc := 216) (N := 4) dX12_init_216 (ct_sh sh_173 (by decide)) (mm_vin (k := 2) rfl (by decide) (by decide)) ?_
  refine mm_dup (pc := 217) dX12_init_217 rfl ?_
  refine mm_iconst (pc := 218) (x := 3) dX12_init_218 rfl ?_
  refine mm_bipush (pc := 219) (x := 101) dX12_init_219 rfl ?_
  refine mm_castore (pc := 221) (N := 4) dX12_init_221 (ct_sh sh_173 (by decide)) (mm_vin (k := 3) rfl (by decide) (by decide)) ?_
  refine mm_putR (pc := 222) (ci := 12) (N := 116) dX12_init_222 fX12_39 (ct_sh sh_164 (by decide)) (by decide +kernel) rfl ?_
  refine mm_aload_n (pc := 225) (j := 0) dX12_init_225 rfl rfl ?_
  refine mm_iconst (pc := 226) (x := 5) dX12_init_226 rfl ?_
  refine ct_newarr (pc := 227) (c := 174) (k := 9) (n := 1636) (N := 5) dX12_init_227 rfl (Or.inr (Or.inr (Or.inl ⟨rfl, rfl⟩))) qa2 (by decide +kernel) (by decide +kernel) (by decide +kernel) (by decide) (by decide) sh_174 ?_
  refine mm_dup (pc := 229) dX12_init_229 rfl ?_
  refine mm_iconst (pc := 230) (x := 0) dX12_init_230 rfl ?_
  refine mm_bipush (pc := 231) (x := 98) dX12_init_231 rfl ?_
  refine mm_castore (pc := 233) (N := 5) dX12_init_233 (ct_sh sh_174 (by decide)) (mm_vin (k := 0) rfl (by decide) (by decide)) ?_
  refine mm_dup (pc := 234) dX12_init_234 rfl ?_
  refine mm_iconst (pc := 235) (x := 1) dX12_init_235 rfl ?_
  refine mm_bipush (pc := 236) (x := 97) dX12_init_236 rfl ?_
  refine mm_castore (pc := 238) (N := 5) dX12_init_238 (ct_sh sh_174 (by decide)) (mm_vin (k := 1) rfl (by decide) (by decide)) ?_
  refine mm_dup (pc := 239) dX12_init_239 rfl ?_
  refine mm_iconst (pc := 240) (x := 2) dX12_init_240 rfl ?_
  refine mm_bipush (pc := 241) (x := 107) dX12_init_241 rfl ?_
  refine mm_castore (pc := 243) (N := 5) dX12_init_243 (ct_sh sh_174 (by decide)) (mm_vin (k := 2) rfl (by decide) (by decide)) ?_
  refine mm_dup (pc := 244) dX12_init_244 rfl ?_
  refine mm_iconst (pc := 245) (x := 3) dX12_init_245 rfl ?_
  refine mm_bipush (pc := 246) (x := 101) dX12_init_246 rfl ?_
  refine mm_castore (pc := 248) (N := 5) dX12_init_248 (ct_sh sh_174 (by decide)) (mm_vin (k := 3) rfl (by decide) (by decide)) ?_
  refine mm_dup (pc := 249) dX12_init_249 rfl ?_
  refine mm_iconst (pc := 250) (x := 4) dX12_init_250 rfl ?_
  refine mm_bipush (pc := 251) (x := 115) dX12_init_251 rfl ?_
  refine mm_castore (pc := 253) (N := 5) dX12_init_253 (ct_sh sh_174 (by decide)) (mm_vin (k := 4) rfl (by decide) (by decide)) ?_
  refine mm_putR (pc := 254) (ci := 12) (N := 116) dX12_init_254 fX12_42 (ct_sh sh_164 (by decide)) (by decide +kernel) rfl ?_
  refine mm_aload_n (pc := 257) (j := 0) dX12_init_257 rfl rfl ?_
  refine mm_bipush (pc := 258) (x := 6) dX12_init_258 rfl ?_
  refine ct_newarr (pc := 260) (c := 175) (k := 10) (n := 1641) (N := 6) dX12_init_260 rfl (Or.inr (Or.inr (Or.inl ⟨rfl, rfl⟩))) qa2 (by decide +kernel) (by decide +kernel) (by decide +kernel) (by decide) (by decide) sh_175 ?_
  refine mm_dup (pc := 262) dX12_init_262 rfl ?_
  refine mm_iconst (pc := 263) (x := 0) dX12_init_263 rfl ?_
  refine mm_bipush (pc := 264) (x := 116) dX12_init_264 rfl ?_
  refine mm_castore (pc := 266) (N := 6) dX12_init_266 (ct_sh sh_175 (by decide)) (mm_vin (k := 0) rfl (by decide) (by decide)) ?_
  refine mm_dup (pc := 267) dX12_init_267 rfl ?_
  refine mm_iconst (pc := 268) (x := 1) dX12_init_268 rfl ?_
  refine mm_bipush (pc := 269) (x := 97) dX12_init_269 rfl ?_
  refine mm_castore (pc := 271) (N := 6) dX12_init_271 (ct_sh sh_175 (by decide)) (mm_vin (k := 1) rfl (by decide) (by decide)) ?_
  refine mm_dup (pc := 272) dX12_init_272 rfl ?_
  refine mm_iconst (pc := 273) (x := 2) dX12_init_273 rfl ?_
  refine mm_bipush (pc := 274) (x := 115) dX12_init_274 rfl ?_
  refine mm_castore (pc := 276) (N := 6) dX12_init_276 (ct_sh sh_175 (by decide)) (mm_vin (k := 2) rfl (by decide) (by decide)) ?_
  refine mm_dup (pc := 277) dX12_init_277 rfl ?_
  refine mm_iconst (pc := 278) (x := 3) dX12_init_278 rfl ?_
  refine mm_bipush (pc := 279) (x := 116) dX12_init_279 rfl ?_
  refine mm_castore (pc := 281) (N := 6) dX12_init_281 (ct_sh sh_175 (by decide)) (mm_vin (k := 3) rfl (by decide) (by decide)) ?_
  refine mm_dup (pc := 282) dX12_init_282 rfl ?_
  refine mm_iconst (pc := 283) (x := 4) dX12_init_283 rfl ?_
  refine mm_bipush (pc := 284) (x := 101) dX12_init_284 rfl ?_
  refine mm_castore (pc := 286) (N := 6) dX12_init_286 (ct_sh sh_175 (by decide)) (mm_vin (k := 4) rfl (by decide) (by decide)) ?_
  refine mm_dup (pc := 287) dX12_init_287 rfl ?_
  refine mm_iconst (pc := 288) (x := 5) dX12_init_288 rfl ?_
  refine mm_bipush (pc := 289) (x := 115) dX12_init_289 rfl ?_
  refine mm_castore (pc := 291) (N := 6) dX12_init_291 (ct_sh sh_175 (by decide)) (mm_vin (k := 5) rfl (by decide) (by decide)) ?_
  refine mm_putR (pc := 292) (ci := 12) (N := 116) dX12_init_292 fX12_45 (ct_sh sh_164 (by decide)) (by decide +kernel) rfl ?_
  refine mm_aload_n (pc := 295) (j := 0) dX12_init_295 rfl rfl ?_
  refine mm_bipush (pc := 296) (x := 7) dX12_init_296 rfl ?_
  refine ct_newarr (pc := 298) (c := 176) (k := 11) (n := 1647) (N := 7) dX12_init_298 rfl (Or.inr (Or.inr (Or.inl ⟨rfl, rfl⟩))) qa2 (by decide +kernel) (by decide +kernel) (by decide +kernel) (by decide) (by decide) sh_176 ?_
  refine mm_dup (pc := 300) dX12_init_300 rfl ?_
  refine mm_iconst (pc := 301) (x := 0) dX12_init_301 rfl ?_
  refine mm_bipush (pc := 302) (x := 115) dX12_init_302 rfl ?_
  refine mm_castore (pc := 304) (N := 7) dX12_init_304 (ct_sh sh_176 (by decide)) (mm_vin (k := 0) rfl (by decide) (by decide)) ?_
  refine mm_dup (pc := 305) dX12_init_305 rfl ?_
  refine mm_iconst (pc := 306) (x := 1) dX12_init_306 rfl ?_
  refine mm_bipush (pc := 307) (x := 116) dX12_init_307 rfl ?_
  refine mm_castore (pc := 309) (N := 7) dX12_init_309 (ct_sh sh_176 (by decide)) (mm_vin (k := 1) rfl (by decide) (by decide)) ?_
  refine mm_dup (pc := 310) dX12_init_310 rfl ?_
  refine mm_iconst (pc := 311) (x := 2) dX12_init_311 rfl ?_
  refine mm_bipush (pc := 312) (x := 97) dX12_init_312 rfl ?_
  refine mm_castore (pc := 314) (N := 7) dX12_init_314 (ct_sh sh_176 (by decide)) (mm_vin (k := 2) rfl (by decide) (by decide)) ?_
  refine mm_dup (pc := 315) dX12_init_315 rfl ?_
  refine mm_iconst (pc := 316) (x := 3) dX12_init_316 rfl ?_
  refine mm_bipush (pc := 317) (x := 114) dX12_init_317 rfl ?_
  refine mm_castore (pc := 319) (N := 7) dX12_init_319 (ct_sh sh_176 (by decide)) (mm_vin (k := 3) rfl (by decide) (by decide)) ?_
  refine mm_dup (pc := 320) dX12_init_320 rfl ?_
  refine mm_iconst (pc := 321) (x := 4) dX12_init_321 rfl ?_
  refine mm_bipush (pc := 322) (x := 118) dX12_init_322 rfl ?_
  refine mm_castore (pc := 324) (N := 7) dX12_init_324 (ct_sh sh_176 (by decide)) (mm_vin (k := 4) rfl (by decide) (by decide)) ?_
  refine mm_dup (pc := 325) dX12_init_325 rfl ?_
  refine mm_iconst (pc := 326) (x := 5) dX12_init_326 rfl ?_
  refine mm_bipush (pc := 327) (x := 101) dX12_init_327 rfl ?_
  refine mm_castore (pc := 329) (N := 7) dX12_init_329 (ct_sh sh_176 (by decide)) (mm_vin (k := 5) rfl (by decide) (by decide)) ?_
  refine mm_dup (pc := 330) dX12_init_330 rfl ?_
  refine mm_bipush (pc := 331) (x := 6) dX12_init_331 rfl ?_
  refine mm_bipush (pc := 333) (x := 115) dX12_init_333 rfl ?_
  refine mm_castore (pc := 335) (N := 7) dX12_init_335 (ct_sh sh_176 (by decide)) (mm_vin (k := 6) rfl (by decide) (by decide)) ?_
  refine mm_putR (pc := 336) (ci := 12) (N := 116) dX12_init_336 fX12_48 (ct_sh sh_164 (by decide)) (by decide +kernel) rfl ?_
  refine mm_aload_n (pc := 339) (j := 0) dX12_init_339 rfl rfl ?_
  refine mm_iconst (pc := 340) (x := 5) dX12_init_340 rfl ?_
  refine ct_newarr (pc := 341) (c := 177) (k := 12) (n := 1654) (N := 5) dX12_init_341 rfl (Or.inr (Or.inr (Or.inl ⟨rfl, rfl⟩))) qa2 (by decide +kernel) (by decide +kernel) (by decide +kernel) (by decide) (by decide) sh_177 ?_
  refine mm_dup (pc := 343) dX12_init_343 rfl ?_
  refine mm_iconst (pc := 344) (x := 0) dX12_init_344 rfl ?_
  refine mm_bipush (pc := 345) (x := 99) dX12_init_345 rfl ?_
  refine mm_castore (pc := 347) (N := 5) dX12_init_347 (ct_sh sh_177 (by decide)) (mm_vin (k := 0) rfl (by decide) (by decide)) ?_
  refine mm_dup (pc := 348) dX12_init_348 rfl ?_
  refine mm_iconst (pc := 349) (x := 1) dX12_init_349 rfl ?_
  refine mm_bipush (pc := 350) (x := 111) dX12_init_350 rfl ?_
  refine mm_castore (pc := 352) (N := 5) dX12_init_352 (ct_sh sh_177 (by decide)) (mm_vin (k := 1) rfl (by decide) (by decide)) ?_
  refine mm_dup (pc := 353) dX12_init_353 rfl ?_
  refine mm_iconst (pc := 354) (x := 2) dX12_init_354 rfl ?_
  refine mm_bipush (pc := 355) (x := 111) dX12_init_355 rfl ?_
  refine mm_castore (pc := 357) (N := 5) dX12_init_357 (ct_sh sh_177 (by decide)) (mm_vin (k := 2) rfl (by decide) (by decide)) ?_
  refine mm_dup (pc := 358) dX12_init_358 rfl ?_
  refine mm_iconst (pc := 359) (x := 3) dX12_init_359 rfl ?_
  refine mm_bipush (pc := 360) (x := 108) dX12_init_360 rfl ?_
  refine mm_castore (pc := 362) (N := 5) dX12_init_362 (ct_sh sh_177 (by decide)) (mm_vin (k := 3) rfl (by decide) (by decide)) ?_
  refine mm_dup (pc := 363) dX12_init_363 rfl ?_
  refine mm_iconst (pc := 364) (x := 4) dX12_init_364 rfl ?_
  refine mm_bipush (pc := 365) (x := 115) dX12_init_365 rfl ?_
  refine mm_castore (pc := 367) (N := 5) dX12_init_367 (ct_sh sh_177 (by decide)) (mm_vin (k := 4) rfl (by decide) (by decide)) ?_
  refine mm_putR (pc := 368) (ci := 12) (N := 116) dX12_init_368 fX12_51 (ct_sh sh_164 (by decide)) (by decide +kernel) rfl ?_
  refine mm_aload_n (pc := 371) (j := 0) dX12_init_371 rfl rfl ?_
  refine mm_iconst (pc := 372) (x := 5) dX12_init_372 rfl ?_
  refine ct_newarr (pc := 373) (c := 178) (k := 13) (n := 1659) (N := 5) dX12_init_373 rfl (Or.inr (Or.inr (Or.inl ⟨rfl, rfl⟩))) qa2 (by decide +kernel) (by decide +kernel) (by decide +kernel) (by decide) (by decide) sh_178 ?_
  refine mm_dup (pc := 375) dX12_init_375 rfl ?_
  refine mm_iconst (pc := 376) (x := 0) dX12_init_376 rfl ?_
  refine mm_bipush (pc := 377) (x := 103) dX12_init_377 rfl ?_
  refine mm_castore (pc := 379) (N := 5) dX12_init_379 (ct_sh sh_178 (by decide)) (mm_vin (k := 0) rfl (by decide) (by decide)) ?_
  refine mm_dup (pc := 380) dX12_init_380 rfl ?_
  refine mm_iconst (pc := 381) (x := 1) dX12_init_381 rfl ?_
  refine mm_bipush (pc := 382) (x := 114) dX12_init_382 rfl ?_
  refine mm_castore (pc := 384) (N := 5) dX12_init_384 (ct_sh sh_178 (by decide)) (mm_vin (k := 1) rfl (by decide) (by decide)) ?_
  refine mm_dup (pc := 385) dX12_init_385 rfl ?_
  refine mm_iconst (pc := 386) (x := 2) dX12_init_386 rfl ?_
  refine mm_bipush (pc := 387) (x := 111) dX12_init_387 rfl ?_
  refine mm_castore (pc := 389) (N := 5) dX12_init_389 (ct_sh sh_178 (by decide)) (mm_vin (k := 2) rfl (by decide) (by decide)) ?_
  refine mm_dup (pc := 390) dX12_init_390 rfl ?_
  refine mm_iconst (pc := 391) (x := 3) dX12_init_391 rfl ?_
  refine mm_bipush (pc := 392) (x := 119) dX12_init_392 rfl ?_
  refine mm_castore (pc := 394) (N := 5) dX12_init_394 (ct_sh sh_178 (by decide)) (mm_vin (k := 3) rfl (by decide) (by decide)) ?_
  refine mm_dup (pc := 395) dX12_init_395 rfl ?_
  refine mm_iconst (pc := 396) (x := 4) dX12_init_396 rfl ?_
  refine mm_bipush (pc := 397) (x := 115) dX12_init_397 rfl ?_
  refine mm_castore (pc := 399) (N := 5) dX12_init_399 (ct_sh sh_178 (by decide)) (mm_vin (k := 4) rfl (by decide) (by decide)) ?_
  refine mm_putR (pc := 400) (ci := 12) (N := 116) dX12_init_400 fX12_54 (ct_sh sh_164 (by decide)) (by decide +kernel) rfl ?_
  refine mm_aload_n (pc := 403) (j := 0) dX12_init_403 rfl rfl ?_
  refine mm_bipush (pc := 404) (x := 6) dX12_init_404 rfl ?_
  refine ct_newarr (pc := 406) (c := 179) (k := 14) (n := 1664) (N := 6) dX12_init_406 rfl (Or.inr (Or.inr (Or.inl ⟨rfl, rfl⟩))) qa2 (by decide +kernel) (by decide +kernel) (by decide +kernel) (by decide) (by decide) sh_179 ?_
  refine mm_dup (pc := 408) dX12_init_408 rfl ?_
  refine mm_iconst (pc := 409) (x := 0) dX12_init_409 rfl ?_
  refine mm_bipush (pc := 410) (x := 102) dX12_init_410 rfl ?_
  refine mm_castore (pc := 412) (N := 6) dX12_init_412 (ct_sh sh_179 (by decide)) (mm_vin (k := 0) rfl (by decide) (by decide)) ?_
  refine mm_dup (pc := 413) dX12_init_413 rfl ?_
  refine mm_iconst (pc := 414) (x := 1) dX12_init_414 rfl ?_
  refine mm_bipush (pc := 415) (x := 97) dX12_init_415 rfl ?_
  refine mm_castore (pc := 417) (N := 6) dX12_init_417 (ct_sh sh_179 (by decide)) (mm_vin (k := 1) rfl (by decide) (by decide)) ?_
  refine mm_dup (pc := 418) dX12_init_418 rfl ?_
  refine mm_iconst (pc := 419) (x := 2) dX12_init_419 rfl ?_
  refine mm_bipush (pc := 420) (x := 109) dX12_init_420 rfl ?_
  refine mm_castore (pc := 422) (N := 6) dX12_init_422 (ct_sh sh_179 (by decide)) (mm_vin (k := 2) rfl (by decide) (by decide)) ?_
  refine mm_dup (pc := 423) dX12_init_423 rfl ?_
  refine mm_iconst (pc := 424) (x := 3) dX12_init_424 rfl ?_
  refine mm_bipush (pc := 425) (x := 105) dX12_init_425 rfl ?_
  refine mm_castore (pc := 427) (N := 6) dX12_init_427 (ct_sh sh_179 (by decide)) (mm_vin (k := 3) rfl (by decide) (by decide)) ?_
  refine mm_dup (pc := 428) dX12_init_428 rfl ?_
  refine mm_iconst (pc := 429) (x := 4) dX12_init_429 rfl ?_
  refine mm_bipush (pc := 430) (x := 110) dX12_init_430 rfl ?_
  refine mm_castore (pc := 432) (N := 6) dX12_init_432 (ct_sh sh_179 (by decide)) (mm_vin (k := 4) rfl (by decide) (by decide)) ?_
  refine mm_dup (pc := 433) dX12_init_433 rfl ?_
  refine mm_iconst (pc := 434) (x := 5) dX12_init_434 rfl ?_
  refine mm_bipush (pc := 435) (x := 101) dX12_init_435 rfl ?_
  refine mm_castore (pc := 437) (N := 6) dX12_init_437 (ct_sh sh_179 (by decide)) (mm_vin (k := 5) rfl (by decide) (by decide)) ?_
  refine mm_putR (pc := 438) (ci := 12) (N := 116) dX12_init_438 fX12_57 (ct_sh sh_164 (by decide)) (by decide +kernel) rfl ?_
  refine mm_aload_n (pc := 441) (j := 0) dX12_init_441 rfl rfl ?_
  refine mm_iconst (pc := 442) (x := 3) dX12_init_442 rfl ?_
  refine ct_newarr (pc := 443) (c := 180) (k := 15) (n := 1670) (N := 3) dX12_init_443 rfl (Or.inr (Or.inr (Or.inl ⟨rfl, rfl⟩))) qa2 (by decide +kernel) (by decide +kernel) (by decide +kernel) (by decide) (by decide) sh_180 ?_
  refine mm_dup (pc := 445) dX12_init_445 rfl ?_
  refine mm_iconst (pc := 446) (x := 0) dX12_init_446 rfl ?_
  refine mm_bipush (pc := 447) (x := 100) dX12_init_447 rfl ?_
  refine mm_castore (pc := 449) (N := 3) dX12_init_449 (ct_sh sh_180 (by decide)) (mm_vin (k := 0) rfl (by decide) (by decide)) ?_
  refine mm_dup (pc := 450) dX12_init_450 rfl ?_
  refine mm_iconst (pc := 451) (x := 1) dX12_init_451 rfl ?_
  refine mm_bipush (pc := 452) (x := 97) dX12_init_452 rfl ?_
  refine mm_castore (pc := 454) (N := 3) dX12_init_454 (ct_sh sh_180 (by decide)) (mm_vin (k := 1) rfl (by decide) (by decide)) ?_
  refine mm_dup (pc := 455) dX12_init_455 rfl ?_
  refine mm_iconst (pc := 456) (x := 2) dX12_init_456 rfl ?_
  refine mm_bipush (pc := 457) (x := 121) dX12_init_457 rfl ?_
  refine mm_castore (pc := 459) (N := 3) dX12_init_459 (ct_sh sh_180 (by decide)) (mm_vin (k := 2) rfl (by decide) (by decide)) ?_
  refine mm_putR (pc := 460) (ci := 12) (N := 116) dX12_init_460 fX12_60 (ct_sh sh_164 (by decide)) (by decide +kernel) rfl ?_
  refine mm_aload_n (pc := 463) (j := 0) dX12_init_463 rfl rfl ?_
  refine mm_bipush (pc := 464) (x := 6) dX12_init_464 rfl ?_
  refine ct_newarr (pc := 466) (c := 181) (k := 16) (n := 1673) (N := 6) dX12_init_466 rfl (Or.inr (Or.inr (Or.inl ⟨rfl, rfl⟩))) qa2 (by decide +kernel) (by decide +kernel) (by decide +kernel) (by decide) (by decide) sh_181 ?_
  refine mm_dup (pc := 468) dX12_init_468 rfl ?_
  refine mm_iconst (pc := 469) (x := 0) dX12_init_469 rfl ?_
  refine mm_bipush (pc := 470) (x := 104) dX12_init_470 rfl ?_
  refine mm_castore (pc := 472) (N := 6) dX12_init_472 (ct_sh sh_181 (by decide)) (mm_vin (k := 0) rfl (by decide) (by decide)) ?_
  refine mm_dup (pc := 473) dX12_init_473 rfl ?_
  refine mm_iconst (pc := 474) (x := 1) dX12_init_474 rfl ?_
  refine mm_bipush (pc := 475) (x := 117) dX12_init_475 rfl ?_
  refine mm_castore (pc := 477) (N := 6) dX12_init_477 (ct_sh sh_181 (by decide)) (mm_vin (k := 1) rfl (by decide) (by decide)) ?_
  refine mm_dup (pc := 478) dX12_init_478 rfl ?_
  refine mm_iconst (pc := 479) (x := 2) dX12_init_479 rfl ?_
  refine mm_bipush (pc := 480) (x := 110) dX12_init_480 rfl ?_
  refine mm_castore (pc := 482) (N := 6) dX12_init_482 (ct_sh sh_181 (by decide)) (mm_vin (k := 2) rfl (by decide) (by decide)) ?_
  refine mm_dup (pc := 483) dX12_init_483 rfl ?_
  refine mm_iconst (pc := 484) (x := 3) dX12_init_484 rfl ?_
  refine mm_bipush (pc := 485) (x := 103) dX12_init_485 rfl ?_
  refine mm_castore (pc := 487) (N := 6) dX12_init_487 (ct_sh sh_181 (by decide)) (mm_vin (k := 3) rfl (by decide) (by decide)) ?_
  refine mm_dup (pc := 488) dX12_init_488 rfl ?_
  refine mm_iconst (pc := 489) (x := 4) dX12_init_489 rfl ?_
  refine mm_bipush (pc := 490) (x := 101) dX12_init_490 rfl ?_
  refine mm_castore (pc := 492) (N := 6) dX12_init_492 (ct_sh sh_181 (by decide)) (mm_vin (k := 4) rfl (by decide) (by decide)) ?_
  refine mm_dup (pc := 493) dX12_init_493 rfl ?_
  refine mm_iconst (pc := 494) (x := 5) dX12_init_494 rfl ?_
  refine mm_bipush (pc := 495) (x := 114) dX12_init_495 rfl ?_
  refine mm_castore (pc := 497) (N := 6) dX12_init_497 (ct_sh sh_181 (by decide)) (mm_vin (k := 5) rfl (by decide) (by decide)) ?_
  refine mm_putR (pc := 498) (ci := 12) (N := 116) dX12_init_498 fX12_63 (ct_sh sh_164 (by decide)) (by decide +kernel) rfl ?_
  refine mm_aload_n (pc := 501) (j := 0) dX12_init_501 rfl rfl ?_
  refine mm_bipush (pc := 502) (x := 6) dX12_init_502 rfl ?_
  refine ct_newarr (pc := 504) (c := 182) (k := 17) (n := 1679) (N := 6) dX12_init_504 rfl (Or.inr (Or.inr (Or.inl ⟨rfl, rfl⟩))) qa2 (by decide +kernel) (by decide +kernel) (by decide +kernel) (by decide) (by decide) sh_182 ?_
  refine mm_dup (pc := 506) dX12_init_506 rfl ?_
  refine mm_iconst (pc := 507) (x := 0) dX12_init_507 rfl ?_
  refine mm_bipush (pc := 508) (x := 108) dX12_init_508 rfl ?_
  refine mm_castore (pc := 510) (N := 6) dX12_init_510 (ct_sh sh_182 (by decide)) (mm_vin (k := 0) rfl (by decide) (by decide)) ?_
  refine mm_dup (pc := 511) dX12_init_511 rfl ?_
  refine mm_iconst (pc := 512) (x := 1) dX12_init_512 rfl ?_
  refine mm_bipush (pc := 513) (x := 111) dX12_init_513 rfl ?_
  refine mm_castore (pc := 515) (N := 6) dX12_init_515 (ct_sh sh_182 (by decide)) (mm_vin (k := 1) rfl (by decide) (by decide)) ?_
  refine mm_dup (pc := 516) dX12_init_516 rfl ?_
  refine mm_iconst (pc := 517) (x := 2) dX12_init_517 rfl ?_
  refine mm_bipush (pc := 518) (x := 97) dX12_init_518 rfl ?_
  refine mm_castore (pc := 520) (N := 6) dX12_init_520 (ct_sh sh_182 (by decide)) (mm_vin (k := 2) rfl (by decide) (by decide)) ?_
  refine mm_dup (pc := 521) dX12_init_521 rfl ?_
  refine mm_iconst (pc := 522) (x := 3) dX12_init_522 rfl ?_
  refine mm_bipush (pc := 523) (x := 118) dX12_init_523 rfl ?_
  refine mm_castore (pc := 525) (N := 6) dX12_init_525 (ct_sh sh_182 (by decide)) (mm_vin (k := 3) rfl (by decide) (by decide)) ?_
  refine mm_dup (pc := 526) dX12_init_526 rfl ?_
  refine mm_iconst (pc := 527) (x := 4) dX12_init_527 rfl ?_
  refine mm_bipush (pc := 528) (x := 101) dX12_init_528 rfl ?_
  refine mm_castore (pc := 530) (N := 6) dX12_init_530 (ct_sh sh_182 (by decide)) (mm_vin (k := 4) rfl (by decide) (by decide)) ?_
  refine mm_dup (pc := 531) dX12_init_531 rfl ?_
  refine mm_iconst (pc := 532) (x := 5) dX12_init_532 rfl ?_
  refine mm_bipush (pc := 533) (x := 115) dX12_init_533 rfl ?_
  refine mm_castore (pc := 535) (N := 6) dX12_init_535 (ct_sh sh_182 (by decide)) (mm_vin (k := 5) rfl (by decide) (by decide)) ?_
  refine mm_putR (pc := 536) (ci := 12) (N := 116) dX12_init_536 fX12_66 (ct_sh sh_164 (by decide)) (by decide +kernel) rfl ?_
  refine mm_aload_n (pc := 539) (j := 0) dX12_init_539 rfl rfl ?_
  refine mm_bipush (pc := 540) (x := 6) dX12_init_540 rfl ?_
  refine ct_newarr (pc := 542) (c := 183) (k := 18) (n := 1685) (N := 6) dX12_init_542 rfl (Or.inr (Or.inr (Or.inl ⟨rfl, rfl⟩))) qa2 (by decide +kernel) (by decide +kernel) (by decide +kernel) (by decide) (by decide) sh_183 ?_
  refine mm_dup (pc := 544) dX12_init_544 rfl ?_
  refine mm_iconst (pc := 545) (x := 0) dX12_init_545 rfl ?_
  refine mm_bipush (pc := 546) (x := 110) dX12_init_546 rfl ?_
  refine mm_castore (pc := 548) (N := 6) dX12_init_548 (ct_sh sh_183 (by decide)) (mm_vin (k := 0) rfl (by decide) (by decide)) ?_
  refine mm_dup (pc := 549) dX12_init_549 rfl ?_
  refine mm_iconst (pc := 550) (x := 1) dX12_init_550 rfl ?_
  refine mm_bipush (pc := 551) (x := 117) dX12_init_551 rfl ?_
  refine mm_castore (pc := 553) (N := 6) dX12_init_553 (ct_sh sh_183 (by decide)) (mm_vin (k := 1) rfl (by decide) (by decide)) ?_
  refine mm_dup (pc := 554) dX12_init_554 rfl ?_
  refine mm_iconst (pc := 555) (x := 2) dX12_init_555 rfl ?_
  refine mm_bipush (pc := 556) (x := 109) dX12_init_556 rfl ?_
  refine mm_castore (pc := 558) (N := 6) dX12_init_558 (ct_sh sh_183 (by decide)) (mm_vin (k := 2) rfl (by decide) (by decide)) ?_
  refine mm_dup (pc := 559) dX12_init_559 rfl ?_
  refine mm_iconst (pc := 560) (x := 3) dX12_init_560 rfl ?_
  refine mm_bipush (pc := 561) (x := 98) dX12_init_561 rfl ?_
  refine mm_castore (pc := 563) (N := 6) dX12_init_563 (ct_sh sh_183 (by decide)) (mm_vin (k := 3) rfl (by decide) (by decide)) ?_
  refine mm_dup (pc := 564) dX12_init_564 rfl ?_
  refine mm_iconst (pc := 565) (x := 4) dX12_init_565 rfl ?_
  refine mm_bipush (pc := 566) (x := 101) dX12_init_566 rfl ?_
  refine mm_castore (pc := 568) (N := 6) dX12_init_568 (ct_sh sh_183 (by decide)) (mm_vin (k := 4) rfl (by decide) (by decide)) ?_
  refine mm_dup (pc := 569) dX12_init_569 rfl ?_
  refine mm_iconst (pc := 570) (x := 5) dX12_init_570 rfl ?_
  refine mm_bipush (pc := 571) (x := 114) dX12_init_571 rfl ?_
  refine mm_castore (pc := 573) (N := 6) dX12_init_573 (ct_sh sh_183 (by decide)) (mm_vin (k := 5) rfl (by decide) (by decide)) ?_
  refine mm_putR (pc := 574) (ci := 12) (N := 116) dX12_init_574 fX12_69 (ct_sh sh_164 (by decide)) (by decide +kernel) rfl ?_
  refine mm_aload_n (pc := 577) (j := 0) dX12_init_577 rfl rfl ?_
  refine mm_iconst (pc := 578) (x := 5) dX12_init_578 rfl ?_
  refine ct_newarr (pc := 579) (c := 184) (k := 19) (n := 1691) (N := 5) dX12_init_579 rfl (Or.inr (Or.inr (Or.inl ⟨rfl, rfl⟩))) qa2 (by decide +kernel) (by decide +kernel) (by decide +kernel) (by decide) (by decide) sh_184 ?_
  refine mm_dup (pc := 581) dX12_init_581 rfl ?_
  refine mm_iconst (pc := 582) (x := 0) dX12_init_582 rfl ?_
  refine mm_bipush (pc := 583) (x := 102) dX12_init_583 rfl ?_
  refine mm_castore (pc := 585) (N := 5) dX12_init_585 (ct_sh sh_184 (by decide)) (mm_vin (k := 0) rfl (by decide) (by decide)) ?_
  refine mm_dup (pc := 586) dX12_init_586 rfl ?_
  refine mm_iconst (pc := 587) (x := 1) dX12_init_587 rfl ?_
  refine mm_bipush (pc := 588) (x := 101) dX12_init_588 rfl ?_
  refine mm_castore (pc := 590) (N := 5) dX12_init_590 (ct_sh sh_184 (by decide)) (mm_vin (k := 1) rfl (by decide) (by decide)) ?_
  refine mm_dup (pc := 591) dX12_init_591 rfl ?_
  refine mm_iconst (pc := 592) (x := 2) dX12_init_592 rfl ?_
  refine mm_bipush (pc := 593) (x := 117) dX12_init_593 rfl ?_
  refine mm_castore (pc := 595) (N := 5) dX12_init_595 (ct_sh sh_184 (by decide)) (mm_vin (k := 2) rfl (by decide) (by decide)) ?_
  refine mm_dup (pc := 596) dX12_init_596 rfl ?_
  refine mm_iconst (pc := 597) (x := 3) dX12_init_597 rfl ?_
  refine mm_bipush (pc := 598) (x := 100) dX12_init_598 rfl ?_
  refine mm_castore (pc := 600) (N := 5) dX12_init_600 (ct_sh sh_184 (by decide)) (mm_vin (k := 3) rfl (by decide) (by decide)) ?_
  refine mm_dup (pc := 601) dX12_init_601 rfl ?_
  refine mm_iconst (pc := 602) (x := 4) dX12_init_602 rfl ?_
  refine mm_bipush (pc := 603) (x := 115) dX12_init_603 rfl ?_
  refine mm_castore (pc := 605) (N := 5) dX12_init_605 (ct_sh sh_184 (by decide)) (mm_vin (k := 4) rfl (by decide) (by decide)) ?_
  refine mm_putR (pc := 606) (ci := 12) (N := 116) dX12_init_606 fX12_72 (ct_sh sh_164 (by decide)) (by decide +kernel) rfl ?_
  refine mm_aload_n (pc := 609) (j := 0) dX12_init_609 rfl rfl ?_
  refine mm_iconst (pc := 610) (x := 2) dX12_init_610 rfl ?_
  refine ct_newarr (pc := 611) (c := 185) (k := 20) (n := 1696) (N := 2) dX12_init_611 rfl (Or.inr (Or.inr (Or.inl ⟨rfl, rfl⟩))) qa2 (by decide +kernel) (by decide +kernel) (by decide +kernel) (by decide) (by decide) sh_185 ?_
  refine mm_dup (pc := 613) dX12_init_613 rfl ?_
  refine mm_iconst (pc := 614) (x := 0) dX12_init_614 rfl ?_
  refine mm_bipush (pc := 615) (x := 111) dX12_init_615 rfl ?_
  refine mm_castore (pc := 617) (N := 2) dX12_init_617 (ct_sh sh_185 (by decide)) (mm_vin (k := 0) rfl (by decide) (by decide)) ?_
  refine mm_dup (pc := 618) dX12_init_618 rfl ?_
  refine mm_iconst (pc := 619) (x := 1) dX12_init_619 rfl ?_
  refine mm_bipush (pc := 620) (x := 114) dX12_init_620 rfl ?_
  refine mm_castore (pc := 622) (N := 2) dX12_init_622 (ct_sh sh_185 (by decide)) (mm_vin (k := 1) rfl (by decide) (by decide)) ?_
  refine mm_putR (pc := 623) (ci := 12) (N := 116) dX12_init_623 fX12_75 (ct_sh sh_164 (by decide)) (by decide +kernel) rfl ?_
  refine mm_aload_n (pc := 626) (j := 0) dX12_init_626 rfl rfl ?_
  refine mm_iconst (pc := 627) (x := 3) dX12_init_627 rfl ?_
  refine ct_newarr (pc := 628) (c := 186) (k := 21) (n := 1698) (N := 3) dX12_init_628 rfl (Or.inr (Or.inr (Or.inl ⟨rfl, rfl⟩))) qa2 (by decide +kernel) (by decide +kernel) (by decide +kernel) (by decide) (by decide) sh_186 ?_
  refine mm_dup (pc := 630) dX12_init_630 rfl ?_
  refine mm_iconst (pc := 631) (x := 0) dX12_init_631 rfl ?_
  refine mm_bipush (pc := 632) (x := 97) dX12_init_632 rfl ?_
  refine mm_castore (pc := 634) (N := 3) dX12_init_634 (ct_sh sh_186 (by decide)) (mm_vin (k := 0) rfl (by decide) (by decide)) ?_
  refine mm_dup (pc := 635) dX12_init_635 rfl ?_
  refine mm_iconst (pc := 636) (x := 1) dX12_init_636 rfl ?_
  refine mm_bipush (pc := 637) (x := 110) dX12_init_637 rfl ?_
  refine mm_castore (pc := 639) (N := 3) dX12_init_639 (ct_sh sh_186 (by decide)) (mm_vin (k := 1) rfl (by decide) (by decide)) ?_
  refine mm_dup (pc := 640) dX12_init_640 rfl ?_
  refine mm_iconst (pc := 641) (x := 2) dX12_init_641 rfl ?_
  refine mm_bipush (pc := 642) (x := 100) dX12_init_642 rfl ?_
  refine mm_castore (pc := 644) (N := 3) dX12_init_644 (ct_sh sh_186 (by decide)) (mm_vin (k := 2) rfl (by decide) (by decide)) ?_
  refine mm_putR (pc := 645) (ci := 12) (N := 116) dX12_init_645 fX12_78 (ct_sh sh_164 (by decide)) (by decide +kernel) rfl ?_
  refine mm_aload_n (pc := 648) (j := 0) dX12_init_648 rfl rfl ?_
  refine mm_iconst (pc := 649) (x := 3) dX12_init_649 rfl ?_
  refine ct_newarr (pc := 650) (c := 187) (k := 22) (n := 1701) (N := 3) dX12_init_650 rfl (Or.inr (Or.inr (Or.inl ⟨rfl, rfl⟩))) qa2 (by decide +kernel) (by decide +kernel) (by decide +kernel) (by decide) (by decide) sh_187 ?_
  refine mm_dup (pc := 652) dX12_init_652 rfl ?_
  refine mm_iconst (pc := 653) (x := 0) dX12_init_653 rfl ?_
  refine mm_bipush (pc := 654) (x := 110) dX12_init_654 rfl ?_
  refine mm_castore (pc := 656) (N := 3) dX12_init_656 (ct_sh sh_187 (by decide)) (mm_vin (k := 0) rfl (by decide) (by decide)) ?_
  refine mm_dup (pc := 657) dX12_init_657 rfl ?_
  refine mm_iconst (pc := 658) (x := 1) dX12_init_658 rfl ?_
  refine mm_bipush (pc := 659) (x := 111) dX12_init_659 rfl ?_
  refine mm_castore (pc := 661) (N := 3) dX12_init_661 (ct_sh sh_187 (by decide)) (mm_vin (k := 1) rfl (by decide) (by decide)) ?_
  refine mm_dup (pc := 662) dX12_init_662 rfl ?_
  refine mm_iconst (pc := 663) (x := 2) dX12_init_663 rfl ?_
  refine mm_bipush (pc := 664) (x := 116) dX12_init_664 rfl ?_
  refine mm_castore (pc := 666) (N := 3) dX12_init_666 (ct_sh sh_187 (by decide)) (mm_vin (k := 2) rfl (by decide) (by decide)) ?_
  refine mm_putR (pc := 667) (ci := 12) (N := 116) dX12_init_667 fX12_81 (ct_sh sh_164 (by decide)) (by decide +kernel) rfl ?_
  refine mm_aload_n (pc := 670) (j := 0) dX12_init_670 rfl rfl ?_
  refine mm_iconst (pc := 671) (x := 3) dX12_init_671 rfl ?_
  refine ct_newarr (pc := 672) (c := 188) (k := 23) (n := 1704) (N := 3) dX12_init_672 rfl (Or.inr (Or.inr (Or.inl ⟨rfl, rfl⟩))) qa2 (by decide +kernel) (by decide +kernel) (by decide +kernel) (by decide) (by decide) sh_188 ?_
  refine mm_dup (pc := 674) dX12_init_674 rfl ?_
  refine mm_iconst (pc := 675) (x := 0) dX12_init_675 rfl ?_
  refine mm_bipush (pc := 676) (x := 97) dX12_init_676 rfl ?_
  refine mm_castore (pc := 678) (N := 3) dX12_init_678 (ct_sh sh_188 (by decide)) (mm_vin (k := 0) rfl (by decide) (by decide)) ?_
  refine mm_dup (pc := 679) dX12_init_679 rfl ?_
  refine mm_iconst (pc := 680) (x := 1) dX12_init_680 rfl ?_
  refine mm_bipush (pc := 681) (x := 108) dX12_init_681 rfl ?_
  refine mm_castore (pc := 683) (N := 3) dX12_init_683 (ct_sh sh_188 (by decide)) (mm_vin (k := 1) rfl (by decide) (by decide)) ?_
  refine mm_dup (pc := 684) dX12_init_684 rfl ?_
  refine mm_iconst (pc := 685) (x := 2) dX12_init_685 rfl ?_
  refine mm_bipush (pc := 686) (x := 108) dX12_init_686 rfl ?_
  refine mm_castore (pc := 688) (N := 3) dX12_init_688 (ct_sh sh_188 (by decide)) (mm_vin (k := 2) rfl (by decide) (by decide)) ?_
  refine mm_putR (pc := 689) (ci := 12) (N := 116) dX12_init_689 fX12_84 (ct_sh sh_164 (by decide)) (by decide +kernel) rfl ?_
  refine mm_aload_n (pc := 692) (j := 0) dX12_init_692 rfl rfl ?_
  refine mm_iconst (pc := 693) (x := 3) dX12_init_693 rfl ?_
  refine ct_newarr (pc := 694) (c := 189) (k := 24) (n := 1707) (N := 3) dX12_init_694 rfl (Or.inr (Or.inr (Or.inl ⟨rfl, rfl⟩))) qa2 (by decide +kernel) (by decide +kernel) (by decide +kernel) (by decide) (by decide) sh_189 ?_
  refine mm_dup (pc := 696) dX12_init_696 rfl ?_
  refine mm_iconst (pc := 697) (x := 0) dX12_init_697 rfl ?_
  refine mm_bipush (pc := 698) (x := 109) dX12_init_698 rfl ?_
  refine mm_castore (pc := 700) (N := 3) dX12_init_700 (ct_sh sh_189 (by decide)) (mm_vin (k := 0) rfl (by decide) (by decide)) ?_
  refine mm_dup (pc := 701) dX12_init_701 rfl ?_
  refine mm_iconst (pc := 702) (x := 1) dX12_init_702 rfl ?_
  refine mm_bipush (pc := 703) (x := 105) dX12_init_703 rfl ?_
  refine mm_castore (pc := 705) (N := 3) dX12_init_705 (ct_sh sh_189 (by decide)) (mm_vin (k := 1) rfl (by decide) (by decide)) ?_
  refine mm_dup (pc := 706) dX12_init_706 rfl ?_
  refine mm_iconst (pc := 707) (x := 2) dX12_init_707 rfl ?_
  refine mm_bipush (pc := 708) (x := 110) dX12_init_708 rfl ?_
  refine mm_castore (pc := 710) (N := 3) dX12_init_710 (ct_sh sh_189 (by decide)) (mm_vin (k := 2) rfl (by decide) (by decide)) ?_
  refine mm_putR (pc := 711) (ci := 12) (N := 116) dX12_init_711 fX12_87 (ct_sh sh_164 (by decide)) (by decide +kernel) rfl ?_
  refine mm_aload_n (pc := 714) (j := 0) dX12_init_714 rfl rfl ?_
  refine mm_iconst (pc := 715) (x := 3) dX12_init_715 rfl ?_
  refine ct_newarr (pc := 716) (c := 190) (k := 25) (n := 1710) (N := 3) dX12_init_716 rfl (Or.inr (Or.inr (Or.inl ⟨rfl, rfl⟩))) qa2 (by decide +kernel) (by decide +kernel) (by decide +kernel) (by decide) (by decide) sh_190 ?_
  refine mm_dup (pc := 718) dX12_init_718 rfl ?_
  refine mm_iconst (pc := 719) (x := 0) dX12_init_719 rfl ?_
  refine mm_bipush (pc := 720) (x := 109) dX12_init_720 rfl ?_
  refine mm_castore (pc := 722) (N := 3) dX12_init_722 (ct_sh sh_190 (by decide)) (mm_vin (k := 0) rfl (by decide) (by decide)) ?_
  refine mm_dup (pc := 723) dX12_init_723 rfl ?_
  refine mm_iconst (pc := 724) (x := 1) dX12_init_724 rfl ?_
  refine mm_bipush (pc := 725) (x := 97) dX12_init_725 rfl ?_
  refine mm_castore (pc := 727) (N := 3) dX12_init_727 (ct_sh sh_190 (by decide)) (mm_vin (k := 1) rfl (by decide) (by decide)) ?_
  refine mm_dup (pc := 728) dX12_init_728 rfl ?_
  refine mm_iconst (pc := 729) (x := 2) dX12_init_729 rfl ?_
  refine mm_bipush (pc := 730) (x := 120) dX12_init_730 rfl ?_
  refine mm_castore (pc := 732) (N := 3) dX12_init_732 (ct_sh sh_190 (by decide)) (mm_vin (k := 2) rfl (by decide) (by decide)) ?_
  refine mm_putR (pc := 733) (ci := 12) (N := 116) dX12_init_733 fX12_90 (ct_sh sh_164 (by decide)) (by decide +kernel) rfl ?_
  refine mm_aload_n (pc := 736) (j := 0) dX12_init_736 rfl rfl ?_
  refine mm_iconst (pc := 737) (x := 4) dX12_init_737 rfl ?_
  refine ct_newarr (pc := 738) (c := 191) (k := 26) (n := 1713) (N := 4) dX12_init_738 rfl (Or.inl ⟨rfl, rfl⟩) qa0 (by decide +kernel) (by decide +kernel) (by decide +kernel) (by decide) (by decide) sh_191 ?_
  refine mm_putR (pc := 740) (ci := 12) (N := 116) dX12_init_740 fX12_93 (ct_sh sh_164 (by decide)) (by decide +kernel) rfl ?_
  refine mm_aload_n (pc := 743) (j := 0) dX12_init_743 rfl rfl ?_
  refine mm_bipush (pc := 744) (x := 14) dX12_init_744 rfl ?_
  refine ct_newarr (pc := 746) (c := 192) (k := 27) (n := 1717) (N := 14) dX12_init_746 rfl (Or.inr (Or.inl ⟨rfl, rfl⟩)) qa1 (by decide +kernel) (by decide +kernel) (by decide +kernel) (by decide) (by decide) sh_192 ?_
  refine mm_putR (pc := 748) (ci := 12) (N := 116) dX12_init_748 fX12_96 (ct_sh sh_164 (by decide)) (by decide +kernel) rfl ?_
  refine mm_aload_n (pc := 751) (j := 0) dX12_init_751 rfl rfl ?_
  refine mm_bipush (pc := 752) (x := 7) dX12_init_752 rfl ?_
  refine ct_newarr (pc := 754) (c := 193) (k := 28) (n := 1731) (N := 7) dX12_init_754 rfl (Or.inl ⟨rfl, rfl⟩) qa0 (by decide +kernel) (by decide +kernel) (by decide +kernel) (by decide) (by decide) sh_193 ?_
  refine mm_putR (pc := 756) (ci := 12) (N := 116) dX12_init_756 fX12_100 (ct_sh sh_164 (by decide)) (by decide +kernel) rfl ?_
  refine mm_aload_n (pc := 759) (j := 0) dX12_init_759 rfl rfl ?_
  refine mm_bipush (pc := 760) (x := 14) dX12_init_760 rfl ?_
  refine ct_newarr (pc := 762) (c := 194) (k := 29) (n := 1738) (N := 14) dX12_init_762 rfl (Or.inl ⟨rfl, rfl⟩) qa0 (by decide +kernel) (by decide +kernel) (by decide +kernel) (by decide) (by decide) sh_194 ?_
  refine mm_putR (pc := 764) (ci := 12) (N := 116) dX12_init_764 fX12_103 (ct_sh sh_164 (by decide)) (by decide +kernel) rfl ?_
  refine mm_aload_n (pc := 767) (j := 0) dX12_init_767 rfl rfl ?_
  refine mm_bipush (pc := 768) (x := 21) dX12_init_768 rfl ?_
  refine ct_newarr (pc := 770) (c := 195) (k := 30) (n := 1752) (N := 21) dX12_init_770 rfl (Or.inl ⟨rfl, rfl⟩) qa0 (by decide +kernel) (by decide +kernel) (by decide +kernel) (by decide) (by decide) sh_195 ?_
  refine mm_putR (pc := 772) (ci := 12) (N := 116) dX12_init_772 fX12_106 (ct_sh sh_164 (by decide)) (by decide +kernel) rfl ?_
  refine mm_aload_n (pc := 775) (j := 0) dX12_init_775 rfl rfl ?_
  refine mm_bipush (pc := 776) (x := 10) dX12_init_776 rfl ?_
  refine ct_newarr (pc := 778) (c := 196) (k := 31) (n := 1773) (N := 10) dX12_init_778 rfl (Or.inl ⟨rfl, rfl⟩) qa0 (by decide +kernel) (by decide +kernel) (by decide +kernel) (by decide) (by decide) sh_196 ?_
  refine mm_dup (pc := 780) dX12_init_780 rfl ?_
  refine mm_iconst (pc := 781) (x := 0) dX12_init_781 rfl ?_
  refine mm_iconst (pc := 782) (x := (-1)) dX12_init_782 rfl ?_
  refine mm_iastore (pc := 783) (N := 10) dX12_init_783 (ct_sh sh_196 (by decide)) (mm_vin (k := 0) rfl (by decide) (by decide)) ?_
  refine mm_dup (pc := 784) dX12_init_784 rfl ?_
  refine mm_iconst (pc := 785) (x := 1) dX12_init_785 rfl ?_
  refine mm_iconst (pc := 786) (x := (-1)) dX12_init_786 rfl ?_
  refine mm_iastore (pc := 787) (N := 10) dX12_init_787 (ct_sh sh_196 (by decide)) (mm_vin (k := 1) rfl (by decide) (by decide)) ?_
  refine mm_dup (pc := 788) dX12_init_788 rfl ?_
  refine mm_iconst (pc := 789) (x := 2) dX12_init_789 rfl ?_
  refine mm_iconst (pc := 790) (x := (-1)) dX12_init_790 rfl ?_
  refine mm_iastore (pc := 791) (N := 10) dX12_init_791 (ct_sh sh_196 (by decide)) (mm_vin (k := 2) rfl (by decide) (by decide)) ?_
  refine mm_dup (pc := 792) dX12_init_792 rfl ?_
  refine mm_iconst (pc := 793) (x := 3) dX12_init_793 rfl ?_
  refine mm_iconst (pc := 794) (x := (-1)) dX12_init_794 rfl ?_
  refine mm_iastore (pc := 795) (N := 10) dX12_init_795 (ct_sh sh_196 (by decide)) (mm_vin (k := 3) rfl (by decide) (by decide)) ?_
  refine mm_dup (pc := 796) dX12_init_796 rfl ?_
  refine mm_iconst (pc := 797) (x := 4) dX12_init_797 rfl ?_
  refine mm_iconst (pc := 798) (x := (-1)) dX12_init_798 rfl ?_
  refine mm_iastore (pc := 799) (N := 10) dX12_init_799 (ct_sh sh_196 (by decide)) (mm_vin (k := 4) rfl (by decide) (by decide)) ?_
  refine mm_dup (pc := 800) dX12_init_800 rfl ?_
  refine mm_iconst (pc := 801) (x := 5) dX12_init_801 rfl ?_
  refine mm_iconst (pc := 802) (x := (-1)) dX12_init_802 rfl ?_
  refine mm_iastore (pc := 803) (N := 10) dX12_init_803 (ct_sh sh_196 (by decide)) (mm_vin (k := 5) rfl (by decide) (by decide)) ?_
  refine mm_dup (pc := 804) dX12_init_804 rfl ?_
  refine mm_bipush (pc := 805) (x := 6) dX12_init_805 rfl ?_
  refine mm_iconst (pc := 807) (x := (-1)) dX12_init_807 rfl ?_
  refine mm_iastore (pc := 808) (N := 10) dX12_init_808 (ct_sh sh_196 (by decide)) (mm_vin (k := 6) rfl (by decide) (by decide)) ?_
  refine mm_dup (pc := 809) dX12_init_809 rfl ?_
  refine mm_bipush (pc := 810) (x := 7) dX12_init_810 rfl ?_
  refine mm_iconst (pc := 812) (x := (-1)) dX12_init_812 rfl ?_
  refine mm_iastore (pc := 813) (N := 10) dX12_init_813 (ct_sh sh_196 (by decide)) (mm_vin (k := 7) rfl (by decide) (by decide)) ?_
  refine mm_dup (pc := 814) dX12_init_814 rfl ?_
  refine mm_bipush (pc := 815) (x := 8) dX12_init_815 rfl ?_
  refine mm_iconst (pc := 817) (x := (-1)) dX12_init_817 rfl ?_
  refine mm_iastore (pc := 818) (N := 10) dX12_init_818 (ct_sh sh_196 (by decide)) (mm_vin (k := 8) rfl (by decide) (by decide)) ?_
  refine mm_dup (pc := 819) dX12_init_819 rfl ?_
  refine mm_bipush (pc := 820) (x := 9) dX12_init_820 rfl ?_
  refine mm_iconst (pc := 822) (x := (-1)) dX12_init_822 rfl ?_
  refine mm_iastore (pc := 823) (N := 10) dX12_init_823 (ct_sh sh_196 (by decide)) (mm_vin (k := 9) rfl (by decide) (by decide)) ?_
  refine mm_putR (pc := 824) (ci := 12) (N := 116) dX12_init_824 fX12_109 (ct_sh sh_164 (by decide)) (by decide +kernel) rfl ?_
  refine mm_aload_n (pc := 827) (j := 0) dX12_init_827 rfl rfl ?_
  refine mm_bipush (pc := 828) (x := 10) dX12_init_828 rfl ?_
  refine ct_newarr (pc := 830) (c := 197) (k := 32) (n := 1783) (N := 10) dX12_init_830 rfl (Or.inl ⟨rfl, rfl⟩) qa0 (by decide +kernel) (by decide +kernel) (by decide +kernel) (by decide) (by decide) sh_197 ?_
  refine mm_putR (pc := 832) (ci := 12) (N := 116) dX12_init_832 fX12_112 (ct_sh sh_164 (by decide)) (by decide +kernel) rfl ?_
  refine mm_aload_n (pc := 835) (j := 0) dX12_init_835 rfl rfl ?_
  refine mm_sipush (pc := 836) (x := 3200) dX12_init_836 rfl ?_
  refine ct_newarr (pc := 839) (c := 198) (k := 33) (n := 1793) (N := 3200) dX12_init_839 rfl (Or.inl ⟨rfl, rfl⟩) qa0 (by decide +kernel) (by decide +kernel) (by decide +kernel) (by decide) (by decide) sh_198 ?_
  refine mm_putR (pc := 841) (ci := 12) (N := 116) dX12_init_841 fX12_115 (ct_sh sh_164 (by decide)) (by decide +kernel) rfl ?_
  refine mm_aload_n (pc := 844) (j := 0) dX12_init_844 rfl rfl ?_
  refine mm_sipush (pc := 845) (x := 204) dX12_init_845 rfl ?_
  refine ct_newarr (pc := 848) (c := 199) (k := 34) (n := 4993) (N := 204) dX12_init_848 rfl (Or.inl ⟨rfl, rfl⟩) qa0 (by decide +kernel) (by decide +kernel) (by decide +kernel) (by decide) (by decide) sh_199 ?_
  refine mm_putR (pc := 850) (ci := 12) (N := 116) dX12_init_850 fX12_118 (ct_sh sh_164 (by decide)) (by decide +kernel) rfl ?_
  refine mm_aload_n (pc := 853) (j := 0) dX12_init_853 rfl rfl ?_
  refine mm_bipush (pc := 854) (x := 43) dX12_init_854 rfl ?_
  refine ct_newarr (pc := 856) (c := 200) (k := 35) (n := 5197) (N := 43) dX12_init_856 rfl (Or.inl ⟨rfl, rfl⟩) qa0 (by decide +kernel) (by decide +kernel) (by decide +kernel) (by decide) (by decide) sh_200 ?_
  refine mm_putR (pc := 858) (ci := 12) (N := 116) dX12_init_858 fX12_121 (ct_sh sh_164 (by decide)) (by decide +kernel) rfl ?_
  refine mm_aload_n (pc := 861) (j := 0) dX12_init_861 rfl rfl ?_
  refine mm_bipush (pc := 862) (x := 49) dX12_init_862 rfl ?_
  refine ct_newarr (pc := 864) (c := 201) (k := 36) (n := 5240) (N := 49) dX12_init_864 rfl (Or.inr (Or.inl ⟨rfl, rfl⟩)) qa1 (by decide +kernel) (by decide +kernel) (by decide +kernel) (by decide) (by decide) sh_201 ?_
  refine mm_putR (pc := 866) (ci := 12) (N := 116) dX12_init_866 fX12_124 (ct_sh sh_164 (by decide)) (by decide +kernel) rfl ?_
  refine mm_aload_n (pc := 869) (j := 0) dX12_init_869 rfl rfl ?_
  refine mm_bipush (pc := 870) (x := 7) dX12_init_870 rfl ?_
  refine ct_newarr (pc := 872) (c := 202) (k := 37) (n := 5289) (N := 7) dX12_init_872 rfl (Or.inl ⟨rfl, rfl⟩) qa0 (by decide +kernel) (by decide +kernel) (by decide +kernel) (by decide) (by decide) sh_202 ?_
  refine mm_putR (pc := 874) (ci := 12) (N := 116) dX12_init_874 fX12_127 (ct_sh sh_164 (by decide)) (by decide +kernel) rfl ?_
  refine mm_aload_n (pc := 877) (j := 0) dX12_init_877 rfl rfl ?_
  refine mm_bipush (pc := 878) (x := 7) dX12_init_878 rfl ?_
  refine ct_newarr (pc := 880) (c := 203) (k := 38) (n := 5296) (N := 7) dX12_init_880 rfl (Or.inl ⟨rfl, rfl⟩) qa0 (by decide +kernel) (by decide +kernel) (by decide +kernel) (by decide) (by decide) sh_203 ?_
  refine mm_putR (pc := 882) (ci := 12) (N := 116) dX12_init_882 fX12_130 (ct_sh sh_164 (by decide)) (by decide +kernel) rfl ?_
  refine mm_aload_n (pc := 885) (j := 0) dX12_init_885 rfl rfl ?_
  refine mm_bipush (pc := 886) (x := 21) dX12_init_886 rfl ?_
  refine ct_newarr (pc := 888) (c := 204) (k := 39) (n := 5303) (N := 21) dX12_init_888 rfl (Or.inl ⟨rfl, rfl⟩) qa0 (by decide +kernel) (by decide +kernel) (by decide +kernel) (by decide) (by decide) sh_204 ?_
  refine mm_putR (pc := 890) (ci := 12) (N := 116) dX12_init_890 fX12_133 (ct_sh sh_164 (by decide)) (by decide +kernel) rfl ?_
  refine mm_aload_n (pc := 893) (j := 0) dX12_init_893 rfl rfl ?_
  refine mm_sipush (pc := 894) (x := 1024) dX12_init_894 rfl ?_
  refine ct_newarr (pc := 897) (c := 205) (k := 40) (n := 5324) (N := 1024) dX12_init_897 rfl (Or.inl ⟨rfl, rfl⟩) qa0 (by decide +kernel) (by decide +kernel) (by decide +kernel) (by decide) (by decide) sh_205 ?_
  refine mm_putR (pc := 899) (ci := 12) (N := 116) dX12_init_899 fX12_136 (ct_sh sh_164 (by decide)) (by decide +kernel) rfl ?_
  refine mm_aload_n (pc := 902) (j := 0) dX12_init_902 rfl rfl ?_
  refine mm_sipush (pc := 903) (x := 1024) dX12_init_903 rfl ?_
  refine ct_newarr (pc := 906) (c := 206) (k := 41) (n := 6348) (N := 1024) dX12_init_906 rfl (Or.inl ⟨rfl, rfl⟩) qa0 (by decide +kernel) (by decide +kernel) (by decide +kernel) (by decide) (by decide) sh_206 ?_
  refine mm_putR (pc := 908) (ci := 12) (N := 116) dX12_init_908 fX12_139 (ct_sh sh_164 (by decide)) (by decide +kernel) rfl ?_
  refine mm_aload_n (pc := 911) (j := 0) dX12_init_911 rfl rfl ?_
  refine mm_bipush (pc := 912) (x := 7) dX12_init_912 rfl ?_
  refine ct_newarr (pc := 914) (c := 207) (k := 42) (n := 7372) (N := 7) dX12_init_914 rfl (Or.inl ⟨rfl, rfl⟩) qa0 (by decide +kernel) (by decide +kernel) (by decide +kernel) (by decide) (by decide) sh_207 ?_
  refine mm_putR (pc := 916) (ci := 12) (N := 116) dX12_init_916 fX12_142 (ct_sh sh_164 (by decide)) (by decide +kernel) rfl ?_
  refine mm_aload_n (pc := 919) (j := 0) dX12_init_919 rfl rfl ?_
  refine mm_bipush (pc := 920) (x := 21) dX12_init_920 rfl ?_
  refine ct_newarr (pc := 922) (c := 208) (k := 43) (n := 7379) (N := 21) dX12_init_922 rfl (Or.inl ⟨rfl, rfl⟩) qa0 (by decide +kernel) (by decide +kernel) (by decide +kernel) (by decide) (by decide) sh_208 ?_
  refine mm_putR (pc := 924) (ci := 12) (N := 116) dX12_init_924 fX12_145 (ct_sh sh_164 (by decide)) (by decide +kernel) rfl ?_
  refine mm_aload_n (pc := 927) (j := 0) dX12_init_927 rfl rfl ?_
  refine mm_bipush (pc := 928) (x := 21) dX12_init_928 rfl ?_
  refine ct_newarr (pc := 930) (c := 209) (k := 44) (n := 7400) (N := 21) dX12_init_930 rfl (Or.inl ⟨rfl, rfl⟩) qa0 (by decide +kernel) (by decide +kernel) (by decide +kernel) (by decide) (by decide) sh_209 ?_
  refine mm_putR (pc := 932) (ci := 12) (N := 116) dX12_init_932 fX12_148 (ct_sh sh_164 (by decide)) (by decide +kernel) rfl ?_
  refine mm_aload_n (pc := 935) (j := 0) dX12_init_935 rfl rfl ?_
  refine mm_iconst (pc := 936) (x := 3) dX12_init_936 rfl ?_
  refine ct_newarr (pc := 937) (c := 210) (k := 45) (n := 7421) (N := 3) dX12_init_937 rfl (Or.inl ⟨rfl, rfl⟩) qa0 (by decide +kernel) (by decide +kernel) (by decide +kernel) (by decide) (by decide) sh_210 ?_
  refine mm_putR (pc := 939) (ci := 12) (N := 116) dX12_init_939 fX12_151 (ct_sh sh_164 (by decide)) (by decide +kernel) rfl ?_
  refine mm_aload_n (pc := 942) (j := 0) dX12_init_942 rfl rfl ?_
  refine mm_sipush (pc := 943) (x := 896) dX12_init_943 rfl ?_
  refine ct_newarr (pc := 946) (c := 211) (k := 46) (n := 7424) (N := 896) dX12_init_946 rfl (Or.inl ⟨rfl, rfl⟩) qa0 (by decide +kernel) (by decide +kernel) (by decide +kernel) (by decide) (by decide) sh_211 ?_
  refine mm_putR (pc := 948) (ci := 12) (N := 116) dX12_init_948 fX12_154 (ct_sh sh_164 (by decide)) (by decide +kernel) rfl ?_
  refine mm_aload_n (pc := 951) (j := 0) dX12_init_951 rfl rfl ?_
  refine mm_bipush (pc := 952) (x := 48) dX12_init_952 rfl ?_
  refine ct_newarr (pc := 954) (c := 212) (k := 47) (n := 8320) (N := 48) dX12_init_954 rfl (Or.inl ⟨rfl, rfl⟩) qa0 (by decide +kernel) (by decide +kernel) (by decide +kernel) (by decide) (by decide) sh_212 ?_
  refine mm_putR (pc := 956) (ci := 12) (N := 116) dX12_init_956 fX12_157 (ct_sh sh_164 (by decide)) (by decide +kernel) rfl ?_
  refine mm_aload_n (pc := 959) (j := 0) dX12_init_959 rfl rfl ?_
  refine mm_sipush (pc := 960) (x := 21700) dX12_init_960 rfl ?_
  refine ct_newarr (pc := 963) (c := 213) (k := 48) (n := 8368) (N := 21700) dX12_init_963 rfl (Or.inl ⟨rfl, rfl⟩) qa0 (by decide +kernel) (by decide +kernel) (by decide +kernel) (by decide) (by decide) sh_213 ?_
  refine mm_putR (pc := 965) (ci := 12) (N := 116) dX12_init_965 fX12_160 (ct_sh sh_164 (by decide)) (by decide +kernel) rfl ?_
  refine mm_aload_n (pc := 968) (j := 0) dX12_init_968 rfl rfl ?_
  refine mm_bipush (pc := 969) (x := 100) dX12_init_969 rfl ?_
  refine ct_newarr (pc := 971) (c := 214) (k := 49) (n := 30068) (N := 100) dX12_init_971 rfl (Or.inr (Or.inr (Or.inr ⟨rfl, rfl⟩))) qa3 (by decide +kernel) (by decide +kernel) (by decide +kernel) (by decide) (by decide) sh_214 ?_
  refine mm_putR (pc := 973) (ci := 12) (N := 116) dX12_init_973 fX12_163 (ct_sh sh_164 (by decide)) (by decide +kernel) rfl ?_
  refine mm_aload_n (pc := 976) (j := 0) dX12_init_976 rfl rfl ?_
  refine mm_bipush (pc := 977) (x := 101) dX12_init_977 rfl ?_
  refine ct_newarr (pc := 979) (c := 215) (k := 50) (n := 30168) (N := 101) dX12_init_979 rfl (Or.inl ⟨rfl, rfl⟩) qa0 (by decide +kernel) (by decide +kernel) (by decide +kernel) (by decide) (by decide) sh_215 ?_
  refine mm_putR (pc := 981) (ci := 12) (N := 116) dX12_init_981 fX12_167 (ct_sh sh_164 (by decide)) (by decide +kernel) rfl ?_
  refine mm_aload_n (pc := 984) (j := 0) dX12_init_984 rfl rfl ?_
  refine mm_sipush (pc := 985) (x := 4080) dX12_init_985 rfl ?_
  refine ct_newarr (pc := 988) (c := 216) (k := 51) (n := 30269) (N := 4080) dX12_init_988 rfl (Or.inl ⟨rfl, rfl⟩) qa0 (by decide +kernel) (by decide +kernel) (by decide +kernel) (by decide) (by decide) sh_216 ?_
  refine mm_putR (pc := 990) (ci := 12) (N := 116) dX12_init_990 fX12_170 (ct_sh sh_164 (by decide)) (by decide +kernel) rfl ?_
  refine mm_aload_n (pc := 993) (j := 0) dX12_init_993 rfl rfl ?_
  refine mm_lconst (pc := 994) (x := 1) dX12_init_994 rfl ?_
  refine mm_putL (pc := 995) (ci := 12) (N := 116) dX12_init_995 fX12_173 (ct_sh sh_164 (by decide)) (by decide +kernel) rfl ?_
  refine mm_aload_n (pc := 998) (j := 0) dX12_init_998 rfl rfl ?_
  refine mm_iconst (pc := 999) (x := 5) dX12_init_999 rfl ?_
  refine ct_newarr (pc := 1000) (c := 217) (k := 52) (n := 34349) (N := 5) dX12_init_1000 rfl (Or.inr (Or.inr (Or.inl ⟨rfl, rfl⟩))) qa2 (by decide +kernel) (by decide +kernel) (by decide +kernel) (by decide) (by decide) sh_217 ?_
  refine mm_dup (pc := 1002) dX12_init_1002 rfl ?_
  refine mm_iconst (pc := 1003) (x := 0) dX12_init_1003 rfl ?_
  refine mm_bipush (pc := 1004) (x := 102) dX12_init_1004 rfl ?_
  refine mm_castore (pc := 1006) (N := 5) dX12_init_1006 (ct_sh sh_217 (by decide)) (mm_vin (k := 0) rfl (by decide) (by decide)) ?_
  refine mm_dup (pc := 1007) dX12_init_1007 rfl ?_
  refine mm_iconst (pc := 1008) (x := 1) dX12_init_1008 rfl ?_
  refine mm_bipush (pc := 1009) (x := 105) dX12_init_1009 rfl ?_
  refine mm_castore (pc := 1011) (N := 5) dX12_init_1011 (ct_sh sh_217 (by decide)) (mm_vin (k := 1) rfl (by decide) (by decide)) ?_
  refine mm_dup (pc := 1012) dX12_init_1012 rfl ?_
  refine mm_iconst (pc := 1013) (x := 2) dX12_init_1013 rfl ?_
  refine mm_bipush (pc := 1014) (x := 114) dX12_init_1014 rfl ?_
  refine mm_castore (pc := 1016) (N := 5) dX12_init_1016 (ct_sh sh_217 (by decide)) (mm_vin (k := 2) rfl (by decide) (by decide)) ?_
  refine mm_dup (pc := 1017) dX12_init_1017 rfl ?_
  refine mm_iconst (pc := 1018) (x := 3) dX12_init_1018 rfl ?_
  refine mm_bipush (pc := 1019) (x := 115) dX12_init_1019 rfl ?_
  refine mm_castore (pc := 1021) (N := 5) dX12_init_1021 (ct_sh sh_217 (by decide)) (mm_vin (k := 3) rfl (by decide) (by decide)) ?_
  refine mm_dup (pc := 1022) dX12_init_1022 rfl ?_
  refine mm_iconst (pc := 1023) (x := 4) dX12_init_1023 rfl ?_
  refine mm_bipush (pc := 1024) (x := 116) dX12_init_1024 rfl ?_
  refine mm_castore (pc := 1026) (N := 5) dX12_init_1026 (ct_sh sh_217 (by decide)) (mm_vin (k := 4) rfl (by decide) (by decide)) ?_
  refine mm_putR (pc := 1027) (ci := 12) (N := 116) dX12_init_1027 fX12_177 (ct_sh sh_164 (by decide)) (by decide +kernel) rfl ?_
  refine mm_aload_n (pc := 1030) (j := 0) dX12_init_1030 rfl rfl ?_
  refine mm_iconst (pc := 1031) (x := 4) dX12_init_1031 rfl ?_
  refine ct_newarr (pc := 1032) (c := 218) (k := 53) (n := 34354) (N := 4) dX12_init_1032 rfl (Or.inr (Or.inr (Or.inl ⟨rfl, rfl⟩))) qa2 (by decide +kernel) (by decide +kernel) (by decide +kernel) (by decide) (by decide) sh_218 ?_
  refine mm_dup (pc := 1034) dX12_init_1034 rfl ?_
  refine mm_iconst (pc := 1035) (x := 0) dX12_init_1035 rfl ?_
  refine mm_bipush (pc := 1036) (x := 108) dX12_init_1036 rfl ?_
  refine mm_castore (pc := 1038) (N := 4) dX12_init_1038 (ct_sh sh_218 (by decide)) (mm_vin (k := 0) rfl (by decide) (by decide)) ?_
  refine mm_dup (pc := 1039) dX12_init_1039 rfl ?_
  refine mm_iconst (pc := 1040) (x := 1) dX12_init_1040 rfl ?_
  refine mm_bipush (pc := 1041) (x := 97) dX12_init_1041 rfl ?_
  refine mm_castore (pc := 1043) (N := 4) dX12_init_1043 (ct_sh sh_218 (by decide)) (mm_vin (k := 1) rfl (by decide) (by decide)) ?_
  refine mm_dup (pc := 1044) dX12_init_1044 rfl ?_
  refine mm_iconst (pc := 1045) (x := 2) dX12_init_1045 rfl ?_
  refine mm_bipush (pc := 1046) (x := 115) dX12_init_1046 rfl ?_
  refine mm_castore (pc := 1048) (N := 4) dX12_init_1048 (ct_sh sh_218 (by decide)) (mm_vin (k := 2) rfl (by decide) (by decide)) ?_
  refine mm_dup (pc := 1049) dX12_init_1049 rfl ?_
  refine mm_iconst (pc := 1050) (x := 3) dX12_init_1050 rfl ?_
  refine mm_bipush (pc := 1051) (x := 116) dX12_init_1051 rfl ?_
  refine mm_castore (pc := 1053) (N := 4) dX12_init_1053 (ct_sh sh_218 (by decide)) (mm_vin (k := 3) rfl (by decide) (by decide)) ?_
  refine mm_putR (pc := 1054) (ci := 12) (N := 116) dX12_init_1054 fX12_180 (ct_sh sh_164 (by decide)) (by decide +kernel) rfl ?_
  refine mm_aload_n (pc := 1057) (j := 0) dX12_init_1057 rfl rfl ?_
  refine mm_iconst (pc := 1058) (x := 5) dX12_init_1058 rfl ?_
  refine ct_newarr (pc := 1059) (c := 219) (k := 54) (n := 34358) (N := 5) dX12_init_1059 rfl (Or.inr (Or.inr (Or.inl ⟨rfl, rfl⟩))) qa2 (by decide +kernel) (by decide +kernel) (by decide +kernel) (by decide) (by decide) sh_219 ?_
  refine mm_dup (pc := 1061) dX12_init_1061 rfl ?_
  refine mm_iconst (pc := 1062) (x := 0) dX12_init_1062 rfl ?_
  refine mm_bipush (pc := 1063) (x := 111) dX12_init_1063 rfl ?_
  refine mm_castore (pc := 1065) (N := 5) dX12_init_1065 (ct_sh sh_219 (by decide)) (mm_vin (k := 0) rfl (by decide) (by decide)) ?_
  refine mm_dup (pc := 1066) dX12_init_1066 rfl ?_
  refine mm_iconst (pc := 1067) (x := 1) dX12_init_1067 rfl ?_
  refine mm_bipush (pc := 1068) (x := 102) dX12_init_1068 rfl ?_
  refine mm_castore (pc := 1070) (N := 5) dX12_init_1070 (ct_sh sh_219 (by decide)) (mm_vin (k := 1) rfl (by decide) (by decide)) ?_
  refine mm_dup (pc := 1071) dX12_init_1071 rfl ?_
  refine mm_iconst (pc := 1072) (x := 2) dX12_init_1072 rfl ?_
  refine mm_bipush (pc := 1073) (x := 116) dX12_init_1073 rfl ?_
  refine mm_castore (pc := 1075) (N := 5) dX12_init_1075 (ct_sh sh_219 (by decide)) (mm_vin (k := 2) rfl (by decide) (by decide)) ?_
  refine mm_dup (pc := 1076) dX12_init_1076 rfl ?_
  refine mm_iconst (pc := 1077) (x := 3) dX12_init_1077 rfl ?_
  refine mm_bipush (pc := 1078) (x := 101) dX12_init_1078 rfl ?_
  refine mm_castore (pc := 1080) (N := 5) dX12_init_1080 (ct_sh sh_219 (by decide)) (mm_vin (k := 3) rfl (by decide) (by decide)) ?_
  refine mm_dup (pc := 1081) dX12_init_1081 rfl ?_
  refine mm_iconst (pc := 1082) (x := 4) dX12_init_1082 rfl ?_
  refine mm_bipush (pc := 1083) (x := 110) dX12_init_1083 rfl ?_
  refine mm_castore (pc := 1085) (N := 5) dX12_init_1085 (ct_sh sh_219 (by decide)) (mm_vin (k := 4) rfl (by decide) (by decide)) ?_
  refine mm_putR (pc := 1086) (ci := 12) (N := 116) dX12_init_1086 fX12_183 (ct_sh sh_164 (by decide)) (by decide +kernel) rfl ?_
  refine mm_aload_n (pc := 1089) (j := 0) dX12_init_1089 rfl rfl ?_
  refine mm_iconst (pc := 1090) (x := 5) dX12_init_1090 rfl ?_
  refine ct_newarr (pc := 1091) (c := 220) (k := 55) (n := 34363) (N := 5) dX12_init_1091 rfl (Or.inr (Or.inr (Or.inl ⟨rfl, rfl⟩))) qa2 (by decide +kernel) (by decide +kernel) (by decide +kernel) (by decide) (by decide) sh_220 ?_
  refine mm_dup (pc := 1093) dX12_init_1093 rfl ?_
  refine mm_iconst (pc := 1094) (x := 0) dX12_init_1094 rfl ?_
  refine mm_bipush (pc := 1095) (x := 116) dX12_init_1095 rfl ?_
  refine mm_castore (pc := 1097) (N := 5) dX12_init_1097 (ct_sh sh_220 (by decide)) (mm_vin (k := 0) rfl (by decide) (by decide)) ?_
  refine mm_dup (pc := 1098) dX12_init_1098 rfl ?_
  refine mm_iconst (pc := 1099) (x := 1) dX12_init_1099 rfl ?_
  refine mm_bipush (pc := 1100) (x := 111) dX12_init_1100 rfl ?_
  refine mm_castore (pc := 1102) (N := 5) dX12_init_1102 (ct_sh sh_220 (by decide)) (mm_vin (k := 1) rfl (by decide) (by decide)) ?_
  refine mm_dup (pc := 1103) dX12_init_1103 rfl ?_
  refine mm_iconst (pc := 1104) (x := 2) dX12_init_1104 rfl ?_
  refine mm_bipush (pc := 1105) (x := 116) dX12_init_1105 rfl ?_
  refine mm_castore (pc := 1107) (N := 5) dX12_init_1107 (ct_sh sh_220 (by decide)) (mm_vin (k := 2) rfl (by decide) (by decide)) ?_
  refine mm_dup (pc := 1108) dX12_init_1108 rfl ?_
  refine mm_iconst (pc := 1109) (x := 3) dX12_init_1109 rfl ?_
  refine mm_bipush (pc := 1110) (x := 97) dX12_init_1110 rfl ?_
  refine mm_castore (pc := 1112) (N := 5) dX12_init_1112 (ct_sh sh_220 (by decide)) (mm_vin (k := 3) rfl (by decide) (by decide)) ?_
  refine mm_dup (pc := 1113) dX12_init_1113 rfl ?_
  refine mm_iconst (pc := 1114) (x := 4) dX12_init_1114 rfl ?_
  refine mm_bipush (pc := 1115) (x := 108) dX12_init_1115 rfl ?_
  refine mm_castore (pc := 1117) (N := 5) dX12_init_1117 (ct_sh sh_220 (by decide)) (mm_vin (k := 4) rfl (by decide) (by decide)) ?_
  refine mm_putR (pc := 1118) (ci := 12) (N := 116) dX12_init_1118 fX12_186 (ct_sh sh_164 (by decide)) (by decide +kernel) rfl ?_
  refine mm_aload_n (pc := 1121) (j := 0) dX12_init_1121 rfl rfl ?_
  refine mm_iconst (pc := 1122) (x := 4) dX12_init_1122 rfl ?_
  refine ct_newarr (pc := 1123) (c := 221) (k := 56) (n := 34368) (N := 4) dX12_init_1123 rfl (Or.inr (Or.inr (Or.inl ⟨rfl, rfl⟩))) qa2 (by decide +kernel) (by decide +kernel) (by decide +kernel) (by decide) (by decide) sh_221 ?_
  refine mm_dup (pc := 1125) dX12_init_1125 rfl ?_
  refine mm_iconst (pc := 1126) (x := 0) dX12_init_1126 rfl ?_
  refine mm_bipush (pc := 1127) (x := 109) dX12_init_1127 rfl ?_
  refine mm_castore (pc := 1129) (N := 4) dX12_init_1129 (ct_sh sh_221 (by decide)) (mm_vin (k := 0) rfl (by decide) (by decide)) ?_
  refine mm_dup (pc := 1130) dX12_init_1130 rfl ?_
  refine mm_iconst (pc := 1131) (x := 1) dX12_init_1131 rfl ?_
  refine mm_bipush (pc := 1132) (x := 111) dX12_init_1132 rfl ?_
  refine mm_castore (pc := 1134) (N := 4) dX12_init_1134 (ct_sh sh_221 (by decide)) (mm_vin (k := 1) rfl (by decide) (by decide)) ?_
  refine mm_dup (pc := 1135) dX12_init_1135 rfl ?_
  refine mm_iconst (pc := 1136) (x := 2) dX12_init_1136 rfl ?_
  refine mm_bipush (pc := 1137) (x := 115) dX12_init_1137 rfl ?_
  refine mm_castore (pc := 1139) (N := 4) dX12_init_1139 (ct_sh sh_221 (by decide)) (mm_vin (k := 2) rfl (by decide) (by decide)) ?_
  refine mm_dup (pc := 1140) dX12_init_1140 rfl ?_
  refine mm_iconst (pc := 1141) (x := 3) dX12_init_1141 rfl ?_
  refine mm_bipush (pc := 1142) (x := 116) dX12_init_1142 rfl ?_
  refine mm_castore (pc := 1144) (N := 4) dX12_init_1144 (ct_sh sh_221 (by decide)) (mm_vin (k := 3) rfl (by decide) (by decide)) ?_
  refine mm_putR (pc := 1145) (ci := 12) (N := 116) dX12_init_1145 fX12_189 (ct_sh sh_164 (by decide)) (by decide +kernel) rfl ?_
  refine mm_aload_n (pc := 1148) (j := 0) dX12_init_1148 rfl rfl ?_
  refine mm_iconst (pc := 1149) (x := 5) dX12_init_1149 rfl ?_
  refine ct_newarr (pc := 1150) (c := 222) (k := 57) (n := 34372) (N := 5) dX12_init_1150 rfl (Or.inr (Or.inr (Or.inl ⟨rfl, rfl⟩))) qa2 (by decide +kernel) (by decide +kernel) (by decide +kernel) (by decide) (by decide) sh_222 ?_
  refine mm_dup (pc := 1152) dX12_init_1152 rfl ?_
  refine mm_iconst (pc := 1153) (x := 0) dX12_init_1153 rfl ?_
  refine mm_bipush (pc := 1154) (x := 108) dX12_init_1154 rfl ?_
  refine mm_castore (pc := 1156) (N := 5) dX12_init_1156 (ct_sh sh_222 (by decide)) (mm_vin (k := 0) rfl (by decide) (by decide)) ?_
  refine mm_dup (pc := 1157) dX12_init_1157 rfl ?_
  refine mm_iconst (pc := 1158) (x := 1) dX12_init_1158 rfl ?_
  refine mm_bipush (pc := 1159) (x := 101) dX12_init_1159 rfl ?_
  refine mm_castore (pc := 1161) (N := 5) dX12_init_1161 (ct_sh sh_222 (by decide)) (mm_vin (k := 1) rfl (by decide) (by decide)) ?_
  refine mm_dup (pc := 1162) dX12_init_1162 rfl ?_
  refine mm_iconst (pc := 1163) (x := 2) dX12_init_1163 rfl ?_
  refine mm_bipush (pc := 1164) (x := 97) dX12_init_1164 rfl ?_
  refine mm_castore (pc := 1166) (N := 5) dX12_init_1166 (ct_sh sh_222 (by decide)) (mm_vin (k := 2) rfl (by decide) (by decide)) ?_
  refine mm_dup (pc := 1167) dX12_init_1167 rfl ?_
  refine mm_iconst (pc := 1168) (x := 3) dX12_init_1168 rfl ?_
  refine mm_bipush (pc := 1169) (x := 115) dX12_init_1169 rfl ?_
  refine mm_castore (pc := 1171) (N := 5) dX12_init_1171 (ct_sh sh_222 (by decide)) (mm_vin (k := 3) rfl (by decide) (by decide)) ?_
  refine mm_dup (pc := 1172) dX12_init_1172 rfl ?_
  refine mm_iconst (pc := 1173) (x := 4) dX12_init_1173 rfl ?_
  refine mm_bipush (pc := 1174) (x := 116) dX12_init_1174 rfl ?_
  refine mm_castore (pc := 1176) (N := 5) dX12_init_1176 (ct_sh sh_222 (by decide)) (mm_vin (k := 4) rfl (by decide) (by decide)) ?_
  refine mm_putR (pc := 1177) (ci := 12) (N := 116) dX12_init_1177 fX12_192 (ct_sh sh_164 (by decide)) (by decide +kernel) rfl ?_
  refine mm_aload_n (pc := 1180) (j := 0) dX12_init_1180 rfl rfl ?_
  refine mm_iconst (pc := 1181) (x := 3) dX12_init_1181 rfl ?_
  refine ct_newarr (pc := 1182) (c := 223) (k := 58) (n := 34377) (N := 3) dX12_init_1182 rfl (Or.inr (Or.inr (Or.inl ⟨rfl, rfl⟩))) qa2 (by decide +kernel) (by decide +kernel) (by decide +kernel) (by decide) (by decide) sh_223 ?_
  refine mm_dup (pc := 1184) dX12_init_1184 rfl ?_
  refine mm_iconst (pc := 1185) (x := 0) dX12_init_1185 rfl ?_
  refine mm_bipush (pc := 1186) (x := 110) dX12_init_1186 rfl ?_
  refine mm_castore (pc := 1188) (N := 3) dX12_init_1188 (ct_sh sh_223 (by decide)) (mm_vin (k := 0) rfl (by decide) (by decide)) ?_
  refine mm_dup (pc := 1189) dX12_init_1189 rfl ?_
  refine mm_iconst (pc := 1190) (x := 1) dX12_init_1190 rfl ?_
  refine mm_bipush (pc := 1191) (x := 111) dX12_init_1191 rfl ?_
  refine mm_castore (pc := 1193) (N := 3) dX12_init_1193 (ct_sh sh_223 (by decide)) (mm_vin (k := 1) rfl (by decide) (by decide)) ?_
  refine mm_dup (pc := 1194) dX12_init_1194 rfl ?_
  refine mm_iconst (pc := 1195) (x := 2) dX12_init_1195 rfl ?_
  refine mm_bipush (pc := 1196) (x := 116) dX12_init_1196 rfl ?_
  refine mm_castore (pc := 1198) (N := 3) dX12_init_1198 (ct_sh sh_223 (by decide)) (mm_vin (k := 2) rfl (by decide) (by decide)) ?_
  refine mm_putR (pc := 1199) (ci := 12) (N := 116) dX12_init_1199 fX12_195 (ct_sh sh_164 (by decide)) (by decide +kernel) rfl ?_
  refine mm_aload_n (pc := 1202) (j := 0) dX12_init_1202 rfl rfl ?_
  refine mm_iconst (pc := 1203) (x := 3) dX12_init_1203 rfl ?_
  refine ct_newarr (pc := 1204) (c := 224) (k := 59) (n := 34380) (N := 3) dX12_init_1204 rfl (Or.inr (Or.inr (Or.inl ⟨rfl, rfl⟩))) qa2 (by decide +kernel) (by decide +kernel) (by decide +kernel) (by decide) (by decide) sh_224 ?_
  refine mm_dup (pc := 1206) dX12_init_1206 rfl ?_
  refine mm_iconst (pc := 1207) (x := 0) dX12_init_1207 rfl ?_
  refine mm_bipush (pc := 1208) (x := 97) dX12_init_1208 rfl ?_
  refine mm_castore (pc := 1210) (N := 3) dX12_init_1210 (ct_sh sh_224 (by decide)) (mm_vin (k := 0) rfl (by decide) (by decide)) ?_
  refine mm_dup (pc := 1211) dX12_init_1211 rfl ?_
  refine mm_iconst (pc := 1212) (x := 1) dX12_init_1212 rfl ?_
  refine mm_bipush (pc := 1213) (x := 110) dX12_init_1213 rfl ?_
  refine mm_castore (pc := 1215) (N := 3) dX12_init_1215 (ct_sh sh_224 (by decide)) (mm_vin (k := 1) rfl (by decide) (by decide)) ?_
  refine mm_dup (pc := 1216) dX12_init_1216 rfl ?_
  refine mm_iconst (pc := 1217) (x := 2) dX12_init_1217 rfl ?_
  refine mm_bipush (pc := 1218) (x := 100) dX12_init_1218 rfl ?_
  refine mm_castore (pc := 1220) (N := 3) dX12_init_1220 (ct_sh sh_224 (by decide)) (mm_vin (k := 2) rfl (by decide) (by decide)) ?_
  refine mm_putR (pc := 1221) (ci := 12) (N := 116) dX12_init_1221 fX12_198 (ct_sh sh_164 (by decide)) (by decide +kernel) rfl ?_
  refine mm_aload_n (pc := 1224) (j := 0) dX12_init_1224 rfl rfl ?_
  refine mm_iconst (pc := 1225) (x := 2) dX12_init_1225 rfl ?_
  refine ct_newarr (pc := 1226) (c := 225) (k := 60) (n := 34383) (N := 2) dX12_init_1226 rfl (Or.inr (Or.inr (Or.inl ⟨rfl, rfl⟩))) qa2 (by decide +kernel) (by decide +kernel) (by decide +kernel) (by decide) (by decide) sh_225 ?_
  refine mm_dup (pc := 1228) dX12_init_1228 rfl ?_
  refine mm_iconst (pc := 1229) (x := 0) dX12_init_1229 rfl ?_
  refine mm_bipush (pc := 1230) (x := 111) dX12_init_1230 rfl ?_
  refine mm_castore (pc := 1232) (N := 2) dX12_init_1232 (ct_sh sh_225 (by decide)) (mm_vin (k := 0) rfl (by decide) (by decide)) ?_
  refine mm_dup (pc := 1233) dX12_init_1233 rfl ?_
  refine mm_iconst (pc := 1234) (x := 1) dX12_init_1234 rfl ?_
  refine mm_bipush (pc := 1235) (x := 114) dX12_init_1235 rfl ?_
  refine mm_castore (pc := 1237) (N := 2) dX12_init_1237 (ct_sh sh_225 (by decide)) (mm_vin (k := 1) rfl (by decide) (by decide)) ?_
  refine mm_putR (pc := 1238) (ci := 12) (N := 116) dX12_init_1238 fX12_201 (ct_sh sh_164 (by decide)) (by decide +kernel) rfl ?_
  refine mm_aload_n (pc := 1241) (j := 0) dX12_init_1241 rfl rfl ?_
  refine mm_iconst (pc := 1242) (x := 3) dX12_init_1242 rfl ?_
  refine ct_newarr (pc := 1243) (c := 226) (k := 61) (n := 34385) (N := 3) dX12_init_1243 rfl (Or.inr (Or.inr (Or.inl ⟨rfl, rfl⟩))) qa2 (by decide +kernel) (by decide +kernel) (by decide +kernel) (by decide) (by decide) sh_226 ?_
  refine mm_dup (pc := 1245) dX12_init_1245 rfl ?_
  refine mm_iconst (pc := 1246) (x := 0) dX12_init_1246 rfl ?_
  refine mm_bipush (pc := 1247) (x := 97) dX12_init_1247 rfl ?_
  refine mm_castore (pc := 1249) (N := 3) dX12_init_1249 (ct_sh sh_226 (by decide)) (mm_vin (k := 0) rfl (by decide) (by decide)) ?_
  refine mm_dup (pc := 1250) dX12_init_1250 rfl ?_
  refine mm_iconst (pc := 1251) (x := 1) dX12_init_1251 rfl ?_
  refine mm_bipush (pc := 1252) (x := 108) dX12_init_1252 rfl ?_
  refine mm_castore (pc := 1254) (N := 3) dX12_init_1254 (ct_sh sh_226 (by decide)) (mm_vin (k := 1) rfl (by decide) (by decide)) ?_
  refine mm_dup (pc := 1255) dX12_init_1255 rfl ?_
  refine mm_iconst (pc := 1256) (x := 2) dX12_init_1256 rfl ?_
  refine mm_bipush (pc := 1257) (x := 108) dX12_init_1257 rfl ?_
  refine mm_castore (pc := 1259) (N := 3) dX12_init_1259 (ct_sh sh_226 (by decide)) (mm_vin (k := 2) rfl (by decide) (by decide)) ?_
  refine mm_putR (pc := 1260) (ci := 12) (N := 116) dX12_init_1260 fX12_204 (ct_sh sh_164 (by decide)) (by decide +kernel) rfl ?_
  refine mm_aload_n (pc := 1263) (j := 0) dX12_init_1263 rfl rfl ?_
  refine mm_iconst (pc := 1264) (x := 3) dX12_init_1264 rfl ?_
  refine ct_newarr (pc := 1265) (c := 227) (k := 62) (n := 34388) (N := 3) dX12_init_1265 rfl (Or.inr (Or.inr (Or.inl ⟨rfl, rfl⟩))) qa2 (by decide +kernel) (by decide +kernel) (by decide +kernel) (by decide) (by decide) sh_227 ?_
  refine mm_dup (pc := 1267) dX12_init_1267 rfl ?_
  refine mm_iconst (pc := 1268) (x := 0) dX12_init_1268 rfl ?_
  refine mm_bipush (pc := 1269) (x := 109) dX12_init_1269 rfl ?_
  refine mm_castore (pc := 1271) (N := 3) dX12_init_1271 (ct_sh sh_227 (by decide)) (mm_vin (k := 0) rfl (by decide) (by decide)) ?_
  refine mm_dup (pc := 1272) dX12_init_1272 rfl ?_
  refine mm_iconst (pc := 1273) (x := 1) dX12_init_1273 rfl ?_
  refine mm_bipush (pc := 1274) (x := 105) dX12_init_1274 rfl ?_
  refine mm_castore (pc := 1276) (N := 3) dX12_init_1276 (ct_sh sh_227 (by decide)) (mm_vin (k := 1) rfl (by decide) (by decide)) ?_
  refine mm_dup (pc := 1277) dX12_init_1277 rfl ?_
  refine mm_iconst (pc := 1278) (x := 2) dX12_init_1278 rfl ?_
  refine mm_bipush (pc := 1279) (x := 110) dX12_init_1279 rfl ?_
  refine mm_castore (pc := 1281) (N := 3) dX12_init_1281 (ct_sh sh_227 (by decide)) (mm_vin (k := 2) rfl (by decide) (by decide)) ?_
  refine mm_putR (pc := 1282) (ci := 12) (N := 116) dX12_init_1282 fX12_207 (ct_sh sh_164 (by decide)) (by decide +kernel) rfl ?_
  refine mm_aload_n (pc := 1285) (j := 0) dX12_init_1285 rfl rfl ?_
  refine mm_iconst (pc := 1286) (x := 3) dX12_init_1286 rfl ?_
  refine ct_newarr (pc := 1287) (c := 228) (k := 63) (n := 34391) (N := 3) dX12_init_1287 rfl (Or.inr (Or.inr (Or.inl ⟨rfl, rfl⟩))) qa2 (by decide +kernel) (by decide +kernel) (by decide +kernel) (by decide) (by decide) sh_228 ?_
  refine mm_dup (pc := 1289) dX12_init_1289 rfl ?_
  refine mm_iconst (pc := 1290) (x := 0) dX12_init_1290 rfl ?_
  refine mm_bipush (pc := 1291) (x := 109) dX12_init_1291 rfl ?_
  refine mm_castore (pc := 1293) (N := 3) dX12_init_1293 (ct_sh sh_228 (by decide)) (mm_vin (k := 0) rfl (by decide) (by decide)) ?_
  refine mm_dup (pc := 1294) dX12_init_1294 rfl ?_
  refine mm_iconst (pc := 1295) (x := 1) dX12_init_1295 rfl ?_
  refine mm_bipush (pc := 1296) (x := 97) dX12_init_1296 rfl ?_
  refine mm_castore (pc := 1298) (N := 3) dX12_init_1298 (ct_sh sh_228 (by decide)) (mm_vin (k := 1) rfl (by decide) (by decide)) ?_
  refine mm_dup (pc := 1299) dX12_init_1299 rfl ?_
  refine mm_iconst (pc := 1300) (x := 2) dX12_init_1300 rfl ?_
  refine mm_bipush (pc := 1301) (x := 120) dX12_init_1301 rfl ?_
  refine mm_castore (pc := 1303) (N := 3) dX12_init_1303 (ct_sh sh_228 (by decide)) (mm_vin (k := 2) rfl (by decide) (by decide)) ?_
  refine mm_putR (pc := 1304) (ci := 12) (N := 116) dX12_init_1304 fX12_210 (ct_sh sh_164 (by decide)) (by decide +kernel) rfl ?_
  refine mm_aload_n (pc := 1307) (j := 0) dX12_init_1307 rfl rfl ?_
  refine mm_iconst (pc := 1308) (x := 5) dX12_init_1308 rfl ?_
  refine ct_newarr (pc := 1309) (c := 229) (k := 64) (n := 34394) (N := 5) dX12_init_1309 rfl (Or.inr (Or.inr (Or.inl ⟨rfl, rfl⟩))) qa2 (by decide +kernel) (by decide +kernel) (by decide +kernel) (by decide) (by decide) sh_229 ?_
  refine mm_dup (pc := 1311) dX12_init_1311 rfl ?_
  refine mm_iconst (pc := 1312) (x := 0) dX12_init_1312 rfl ?_
  refine mm_bipush (pc := 1313) (x := 102) dX12_init_1313 rfl ?_
  refine mm_castore (pc := 1315) (N := 5) dX12_init_1315 (ct_sh sh_229 (by decide)) (mm_vin (k := 0) rfl (by decide) (by decide)) ?_
  refine mm_dup (pc := 1316) dX12_init_1316 rfl ?_
  refine mm_iconst (pc := 1317) (x := 1) dX12_init_1317 rfl ?_
  refine mm_bipush (pc := 1318) (x := 108) dX12_init_1318 rfl ?_
  refine mm_castore (pc := 1320) (N := 5) dX12_init_1320 (ct_sh sh_229 (by decide)) (mm_vin (k := 1) rfl (by decide) (by decide)) ?_
  refine mm_dup (pc := 1321) dX12_init_1321 rfl ?_
  refine mm_iconst (pc := 1322) (x := 2) dX12_init_1322 rfl ?_
  refine mm_bipush (pc := 1323) (x := 111) dX12_init_1323 rfl ?_
  refine mm_castore (pc := 1325) (N := 5) dX12_init_1325 (ct_sh sh_229 (by decide)) (mm_vin (k := 2) rfl (by decide) (by decide)) ?_
  refine mm_dup (pc := 1326) dX12_init_1326 rfl ?_
  refine mm_iconst (pc := 1327) (x := 3) dX12_init_1327 rfl ?_
  refine mm_bipush (pc := 1328) (x := 117) dX12_init_1328 rfl ?_
  refine mm_castore (pc := 1330) (N := 5) dX12_init_1330 (ct_sh sh_229 (by decide)) (mm_vin (k := 3) rfl (by decide) (by decide)) ?_
  refine mm_dup (pc := 1331) dX12_init_1331 rfl ?_
  refine mm_iconst (pc := 1332) (x := 4) dX12_init_1332 rfl ?_
  refine mm_bipush (pc := 1333) (x := 114) dX12_init_1333 rfl ?_
  refine mm_castore (pc := 1335) (N := 5) dX12_init_1335 (ct_sh sh_229 (by decide)) (mm_vin (k := 4) rfl (by decide) (by decide)) ?_
  refine mm_putR (pc := 1336) (ci := 12) (N := 116) dX12_init_1336 fX12_213 (ct_sh sh_164 (by decide)) (by decide +kernel) rfl ?_
  refine mm_aload_n (pc := 1339) (j := 0) dX12_init_1339 rfl rfl ?_
  refine mm_iconst (pc := 1340) (x := 4) dX12_init_1340 rfl ?_
  refine ct_newarr (pc := 1341) (c := 230) (k := 65) (n := 34399) (N := 4) dX12_init_1341 rfl (Or.inr (Or.inr (Or.inl ⟨rfl, rfl⟩))) qa2 (by decide +kernel) (by decide +kernel) (by decide +kernel) (by decide) (by decide) sh_230 ?_
  refine mm_dup (pc := 1343) dX12_init_1343 rfl ?_
  refine mm_iconst (pc := 1344) (x := 0) dX12_init_1344 rfl ?_
  refine mm_bipush (pc := 1345) (x := 115) dX12_init_1345 rfl ?_
  refine mm_castore (pc := 1347) (N := 4) dX12_init_1347 (ct_sh sh_230 (by decide)) (mm_vin (k := 0) rfl (by decide) (by decide)) ?_
  refine mm_dup (pc := 1348) dX12_init_1348 rfl ?_
  refine mm_iconst (pc := 1349) (x := 1) dX12_init_1349 rfl ?_
  refine mm_bipush (pc := 1350) (x := 97) dX12_init_1350 rfl ?_
  refine mm_castore (pc := 1352) (N := 4) dX12_init_1352 (ct_sh sh_230 (by decide)) (mm_vin (k := 1) rfl (by decide) (by decide)) ?_
  refine mm_dup (pc := 1353) dX12_init_1353 rfl ?_
  refine mm_iconst (pc := 1354) (x := 2) dX12_init_1354 rfl ?_
  refine mm_bipush (pc := 1355) (x := 108) dX12_init_1355 rfl ?_
  refine mm_castore (pc := 1357) (N := 4) dX12_init_1357 (ct_sh sh_230 (by decide)) (mm_vin (k := 2) rfl (by decide) (by decide)) ?_
  refine mm_dup (pc := 1358) dX12_init_1358 rfl ?_
  refine mm_iconst (pc := 1359) (x := 3) dX12_init_1359 rfl ?_
  refine mm_bipush (pc := 1360) (x := 116) dX12_init_1360 rfl ?_
  refine mm_castore (pc := 1362) (N := 4) dX12_init_1362 (ct_sh sh_230 (by decide)) (mm_vin (k := 3) rfl (by decide) (by decide)) ?_
  refine mm_putR (pc := 1363) (ci := 12) (N := 116) dX12_init_1363 fX12_216 (ct_sh sh_164 (by decide)) (by decide +kernel) rfl ?_
  refine mm_aload_n (pc := 1366) (j := 0) dX12_init_1366 rfl rfl ?_
  refine mm_bipush (pc := 1367) (x := 6) dX12_init_1367 rfl ?_
  refine ct_newarr (pc := 1369) (c := 231) (k := 66) (n := 34403) (N := 6) dX12_init_1369 rfl (Or.inr (Or.inr (Or.inl ⟨rfl, rfl⟩))) qa2 (by decide +kernel) (by decide +kernel) (by decide +kernel) (by decide) (by decide) sh_231 ?_
  refine mm_dup (pc := 1371) dX12_init_1371 rfl ?_
  refine mm_iconst (pc := 1372) (x := 0) dX12_init_1372 rfl ?_
  refine mm_bipush (pc := 1373) (x := 104) dX12_init_1373 rfl ?_
  refine mm_castore (pc := 1375) (N := 6) dX12_init_1375 (ct_sh sh_231 (by decide)) (mm_vin (k := 0) rfl (by decide) (by decide)) ?_
  refine mm_dup (pc := 1376) dX12_init_1376 rfl ?_
  refine mm_iconst (pc := 1377) (x := 1) dX12_init_1377 rfl ?_
  refine mm_bipush (pc := 1378) (x := 117) dX12_init_1378 rfl ?_
  refine mm_castore (pc := 1380) (N := 6) dX12_init_1380 (ct_sh sh_231 (by decide)) (mm_vin (k := 1) rfl (by decide) (by decide)) ?_
  refine mm_dup (pc := 1381) dX12_init_1381 rfl ?_
  refine mm_iconst (pc := 1382) (x := 2) dX12_init_1382 rfl ?_
  refine mm_bipush (pc := 1383) (x := 110) dX12_init_1383 rfl ?_
  refine mm_castore (pc := 1385) (N := 6) dX12_init_1385 (ct_sh sh_231 (by decide)) (mm_vin (k := 2) rfl (by decide) (by decide)) ?_
  refine mm_dup (pc := 1386) dX12_init_1386 rfl ?_
  refine mm_iconst (pc := 1387) (x := 3) dX12_init_1387 rfl ?_
  refine mm_bipush (pc := 1388) (x := 103) dX12_init_1388 rfl ?_
  refine mm_castore (pc := 1390) (N := 6) dX12_init_1390 (ct_sh sh_231 (by decide)) (mm_vin (k := 3) rfl (by decide) (by decide)) ?_
  refine mm_dup (pc := 1391) dX12_init_1391 rfl ?_
  refine mm_iconst (pc := 1392) (x := 4) dX12_init_1392 rfl ?_
  refine mm_bipush (pc := 1393) (x := 101) dX12_init_1393 rfl ?_
  refine mm_castore (pc := 1395) (N := 6) dX12_init_1395 (ct_sh sh_231 (by decide)) (mm_vin (k := 4) rfl (by decide) (by decide)) ?_
  refine mm_dup (pc := 1396) dX12_init_1396 rfl ?_
  refine mm_iconst (pc := 1397) (x := 5) dX12_init_1397 rfl ?_
  refine mm_bipush (pc := 1398) (x := 114) dX12_init_1398 rfl ?_
  refine mm_castore (pc := 1400) (N := 6) dX12_init_1400 (ct_sh sh_231 (by decide)) (mm_vin (k := 5) rfl (by decide) (by decide)) ?_
  refine mm_putR (pc := 1401) (ci := 12) (N := 116) dX12_init_1401 fX12_219 (ct_sh sh_164 (by decide)) (by decide +kernel) rfl ?_
  refine mm_aload_n (pc := 1404) (j := 0) dX12_init_1404 rfl rfl ?_
  refine mm_iconst (pc := 1405) (x := 3) dX12_init_1405 rfl ?_
  refine ct_newarr (pc := 1406) (c := 232) (k := 67) (n := 34409) (N := 3) dX12_init_1406 rfl (Or.inr (Or.inr (Or.inl ⟨rfl, rfl⟩))) qa2 (by decide +kernel) (by decide +kernel) (by decide +kernel) (by decide) (by decide) sh_232 ?_
  refine mm_dup (pc := 1408) dX12_init_1408 rfl ?_
  refine mm_iconst (pc := 1409) (x := 0) dX12_init_1409 rfl ?_
  refine mm_bipush (pc := 1410) (x := 100) dX12_init_1410 rfl ?_
  refine mm_castore (pc := 1412) (N := 3) dX12_init_1412 (ct_sh sh_232 (by decide)) (mm_vin (k := 0) rfl (by decide) (by decide)) ?_
  refine mm_dup (pc := 1413) dX12_init_1413 rfl ?_
  refine mm_iconst (pc := 1414) (x := 1) dX12_init_1414 rfl ?_
  refine mm_bipush (pc := 1415) (x := 97) dX12_init_1415 rfl ?_
  refine mm_castore (pc := 1417) (N := 3) dX12_init_1417 (ct_sh sh_232 (by decide)) (mm_vin (k := 1) rfl (by decide) (by decide)) ?_
  refine mm_dup (pc := 1418) dX12_init_1418 rfl ?_
  refine mm_iconst (pc := 1419) (x := 2) dX12_init_1419 rfl ?_
  refine mm_bipush (pc := 1420) (x := 121) dX12_init_1420 rfl ?_
  refine mm_castore (pc := 1422) (N := 3) dX12_init_1422 (ct_sh sh_232 (by decide)) (mm_vin (k := 2) rfl (by decide) (by decide)) ?_
  refine mm_putR (pc := 1423) (ci := 12) (N := 116) dX12_init_1423 fX12_222 (ct_sh sh_164 (by decide)) (by decide +kernel) rfl ?_
  refine mm_aload_n (pc := 1426) (j := 0) dX12_init_1426 rfl rfl ?_
  refine mm_iconst (pc := 1427) (x := 4) dX12_init_1427 rfl ?_
  refine ct_newarr (pc := 1428) (c := 233) (k := 68) (n := 34412) (N := 4) dX12_init_1428 rfl (Or.inr (Or.inr (Or.inl ⟨rfl, rfl⟩))) qa2 (by decide +kernel) (by decide +kernel) (by decide +kernel) (by decide) (by decide) sh_233 ?_
  refine mm_dup (pc := 1430) dX12_init_1430 rfl ?_
  refine mm_iconst (pc := 1431) (x := 0) dX12_init_1431 rfl ?_
  refine mm_bipush (pc := 1432) (x := 104) dX12_init_1432 rfl ?_
  refine mm_castore (pc := 1434) (N := 4) dX12_init_1434 (ct_sh sh_233 (by decide)) (mm_vin (k := 0) rfl (by decide) (by decide)) ?_
  refine mm_dup (pc := 1435) dX12_init_1435 rfl ?_
  refine mm_iconst (pc := 1436) (x := 1) dX12_init_1436 rfl ?_
  refine mm_bipush (pc := 1437) (x := 97) dX12_init_1437 rfl ?_
  refine mm_castore (pc := 1439) (N := 4) dX12_init_1439 (ct_sh sh_233 (by decide)) (mm_vin (k := 1) rfl (by decide) (by decide)) ?_
  refine mm_dup (pc := 1440) dX12_init_1440 rfl ?_
  refine mm_iconst (pc := 1441) (x := 2) dX12_init_1441 rfl ?_
  refine mm_bipush (pc := 1442) (x := 116) dX12_init_1442 rfl ?_
  refine mm_castore (pc := 1444) (N := 4) dX12_init_1444 (ct_sh sh_233 (by decide)) (mm_vin (k := 2) rfl (by decide) (by decide)) ?_
  refine mm_dup (pc := 1445) dX12_init_1445 rfl ?_
  refine mm_iconst (pc := 1446) (x := 3) dX12_init_1446 rfl ?_
  refine mm_bipush (pc := 1447) (x := 101) dX12_init_1447 rfl ?_
  refine mm_castore (pc := 1449) (N := 4) dX12_init_1449 (ct_sh sh_233 (by decide)) (mm_vin (k := 3) rfl (by decide) (by decide)) ?_
  refine mm_putR (pc := 1450) (ci := 12) (N := 116) dX12_init_1450 fX12_225 (ct_sh sh_164 (by decide)) (by decide +kernel) rfl ?_
  refine mm_aload_n (pc := 1453) (j := 0) dX12_init_1453 rfl rfl ?_
  refine mm_bipush (pc := 1454) (x := 6) dX12_init_1454 rfl ?_
  refine ct_newarr (pc := 1456) (c := 234) (k := 69) (n := 34416) (N := 6) dX12_init_1456 rfl (Or.inr (Or.inr (Or.inl ⟨rfl, rfl⟩))) qa2 (by decide +kernel) (by decide +kernel) (by decide +kernel) (by decide) (by decide) sh_234 ?_
  refine mm_dup (pc := 1458) dX12_init_1458 rfl ?_
  refine mm_iconst (pc := 1459) (x := 0) dX12_init_1459 rfl ?_
  refine mm_bipush (pc := 1460) (x := 108) dX12_init_1460 rfl ?_
  refine mm_castore (pc := 1462) (N := 6) dX12_init_1462 (ct_sh sh_234 (by decide)) (mm_vin (k := 0) rfl (by decide) (by decide)) ?_
  refine mm_dup (pc := 1463) dX12_init_1463 rfl ?_
  refine mm_iconst (pc := 1464) (x := 1) dX12_init_1464 rfl ?_
  refine mm_bipush (pc := 1465) (x := 111) dX12_init_1465 rfl ?_
  refine mm_castore (pc := 1467) (N := 6) dX12_init_1467 (ct_sh sh_234 (by decide)) (mm_vin (k := 1) rfl (by decide) (by decide)) ?_
  refine mm_dup (pc := 1468) dX12_init_1468 rfl ?_
  refine mm_iconst (pc := 1469) (x := 2) dX12_init_1469 rfl ?_
  refine mm_bipush (pc := 1470) (x := 97) dX12_init_1470 rfl ?_
  refine mm_castore (pc := 1472) (N := 6) dX12_init_1472 (ct_sh sh_234 (by decide)) (mm_vin (k := 2) rfl (by decide) (by decide)) ?_
  refine mm_dup (pc := 1473) dX12_init_1473 rfl ?_
  refine mm_iconst (pc := 1474) (x := 3) dX12_init_1474 rfl ?_
  refine mm_bipush (pc := 1475) (x := 118) dX12_init_1475 rfl ?_
  refine mm_castore (pc := 1477) (N := 6) dX12_init_1477 (ct_sh sh_234 (by decide)) (mm_vin (k := 3) rfl (by decide) (by decide)) ?_
  refine mm_dup (pc := 1478) dX12_init_1478 rfl ?_
  refine mm_iconst (pc := 1479) (x := 4) dX12_init_1479 rfl ?_
  refine mm_bipush (pc := 1480) (x := 101) dX12_init_1480 rfl ?_
  refine mm_castore (pc := 1482) (N := 6) dX12_init_1482 (ct_sh sh_234 (by decide)) (mm_vin (k := 4) rfl (by decide) (by decide)) ?_
  refine mm_dup (pc := 1483) dX12_init_1483 rfl ?_
  refine mm_iconst (pc := 1484) (x := 5) dX12_init_1484 rfl ?_
  refine mm_bipush (pc := 1485) (x := 115) dX12_init_1485 rfl ?_
  refine mm_castore (pc := 1487) (N := 6) dX12_init_1487 (ct_sh sh_234 (by decide)) (mm_vin (k := 5) rfl (by decide) (by decide)) ?_
  refine mm_putR (pc := 1488) (ci := 12) (N := 116) dX12_init_1488 fX12_228 (ct_sh sh_164 (by decide)) (by decide +kernel) rfl ?_
  refine mm_aload_n (pc := 1491) (j := 0) dX12_init_1491 rfl rfl ?_
  refine mm_bipush (pc := 1492) (x := 6) dX12_init_1492 rfl ?_
  refine ct_newarr (pc := 1494) (c := 235) (k := 70) (n := 34422) (N := 6) dX12_init_1494 rfl (Or.inr (Or.inr (Or.inl ⟨rfl, rfl⟩))) qa2 (by decide +kernel) (by decide +kernel) (by decide +kernel) (by decide) (by decide) sh_235 ?_
  refine mm_dup (pc := 1496) dX12_init_1496 rfl ?_
  refine mm_iconst (pc := 1497) (x := 0) dX12_init_1497 rfl ?_
  refine mm_bipush (pc := 1498) (x := 110) dX12_init_1498 rfl ?_
  refine mm_castore (pc := 1500) (N := 6) dX12_init_1500 (ct_sh sh_235 (by decide)) (mm_vin (k := 0) rfl (by decide) (by decide)) ?_
  refine mm_dup (pc := 1501) dX12_init_1501 rfl ?_
  refine mm_iconst (pc := 1502) (x := 1) dX12_init_1502 rfl ?_
  refine mm_bipush (pc := 1503) (x := 117) dX12_init_1503 rfl ?_
  refine mm_castore (pc := 1505) (N := 6) dX12_init_1505 (ct_sh sh_235 (by decide)) (mm_vin (k := 1) rfl (by decide) (by decide)) ?_
  refine mm_dup (pc := 1506) dX12_init_1506 rfl ?_
  refine mm_iconst (pc := 1507) (x := 2) dX12_init_1507 rfl ?_
  refine mm_bipush (pc := 1508) (x := 109) dX12_init_1508 rfl ?_
  refine mm_castore (pc := 1510) (N := 6) dX12_init_1510 (ct_sh sh_235 (by decide)) (mm_vin (k := 2) rfl (by decide) (by decide)) ?_
  refine mm_dup (pc := 1511) dX12_init_1511 rfl ?_
  refine mm_iconst (pc := 1512) (x := 3) dX12_init_1512 rfl ?_
  refine mm_bipush (pc := 1513) (x := 98) dX12_init_1513 rfl ?_
  refine mm_castore (pc := 1515) (N := 6) dX12_init_1515 (ct_sh sh_235 (by decide)) (mm_vin (k := 3) rfl (by decide) (by decide)) ?_
  refine mm_dup (pc := 1516) dX12_init_1516 rfl ?_
  refine mm_iconst (pc := 1517) (x := 4) dX12_init_1517 rfl ?_
  refine mm_bipush (pc := 1518) (x := 101) dX12_init_1518 rfl ?_
  refine mm_castore (pc := 1520) (N := 6) dX12_init_1520 (ct_sh sh_235 (by decide)) (mm_vin (k := 4) rfl (by decide) (by decide)) ?_
  refine mm_dup (pc := 1521) dX12_init_1521 rfl ?_
  refine mm_iconst (pc := 1522) (x := 5) dX12_init_1522 rfl ?_
  refine mm_bipush (pc := 1523) (x := 114) dX12_init_1523 rfl ?_
  refine mm_castore (pc := 1525) (N := 6) dX12_init_1525 (ct_sh sh_235 (by decide)) (mm_vin (k := 5) rfl (by decide) (by decide)) ?_
  refine mm_putR (pc := 1526) (ci := 12) (N := 116) dX12_init_1526 fX12_231 (ct_sh sh_164 (by decide)) (by decide +kernel) rfl ?_
  refine mm_aload_n (pc := 1529) (j := 0) dX12_init_1529 rfl rfl ?_
  refine mm_iconst (pc := 1530) (x := 5) dX12_init_1530 rfl ?_
  refine ct_newarr (pc := 1531) (c := 236) (k := 71) (n := 34428) (N := 5) dX12_init_1531 rfl (Or.inr (Or.inr (Or.inl ⟨rfl, rfl⟩))) qa2 (by decide +kernel) (by decide +kernel) (by decide +kernel) (by decide) (by decide) sh_236 ?_
  refine mm_dup (pc := 1533) dX12_init_1533 rfl ?_
  refine mm_iconst (pc := 1534) (x := 0) dX12_init_1534 rfl ?_
  refine mm_bipush (pc := 1535) (x := 102) dX12_init_1535 rfl ?_
  refine mm_castore (pc := 1537) (N := 5) dX12_init_1537 (ct_sh sh_236 (by decide)) (mm_vin (k := 0) rfl (by decide) (by decide)) ?_
  refine mm_dup (pc := 1538) dX12_init_1538 rfl ?_
  refine mm_iconst (pc := 1539) (x := 1) dX12_init_1539 rfl ?_
  refine mm_bipush (pc := 1540) (x := 101) dX12_init_1540 rfl ?_
  refine mm_castore (pc := 1542) (N := 5) dX12_init_1542 (ct_sh sh_236 (by decide)) (mm_vin (k := 1) rfl (by decide) (by decide)) ?_
  refine mm_dup (pc := 1543) dX12_init_1543 rfl ?_
  refine mm_iconst (pc := 1544) (x := 2) dX12_init_1544 rfl ?_
  refine mm_bipush (pc := 1545) (x := 117) dX12_init_1545 rfl ?_
  refine mm_castore (pc := 1547) (N := 5) dX12_init_1547 (ct_sh sh_236 (by decide)) (mm_vin (k := 2) rfl (by decide) (by decide)) ?_
  refine mm_dup (pc := 1548) dX12_init_1548 rfl ?_
  refine mm_iconst (pc := 1549) (x := 3) dX12_init_1549 rfl ?_
  refine mm_bipush (pc := 1550) (x := 100) dX12_init_1550 rfl ?_
  refine mm_castore (pc := 1552) (N := 5) dX12_init_1552 (ct_sh sh_236 (by decide)) (mm_vin (k := 3) rfl (by decide) (by decide)) ?_
  refine mm_dup (pc := 1553) dX12_init_1553 rfl ?_
  refine mm_iconst (pc := 1554) (x := 4) dX12_init_1554 rfl ?_
  refine mm_bipush (pc := 1555) (x := 115) dX12_init_1555 rfl ?_
  refine mm_castore (pc := 1557) (N := 5) dX12_init_1557 (ct_sh sh_236 (by decide)) (mm_vin (k := 4) rfl (by decide) (by decide)) ?_
  refine mm_putR (pc := 1558) (ci := 12) (N := 116) dX12_init_1558 fX12_234 (ct_sh sh_164 (by decide)) (by decide +kernel) rfl ?_
  refine mm_aload_n (pc := 1561) (j := 0) dX12_init_1561 rfl rfl ?_
  refine mm_iconst (pc := 1562) (x := 4) dX12_init_1562 rfl ?_
  refine ct_newarr (pc := 1563) (c := 237) (k := 72) (n := 34433) (N := 4) dX12_init_1563 rfl (Or.inr (Or.inr (Or.inl ⟨rfl, rfl⟩))) qa2 (by decide +kernel) (by decide +kernel) (by decide +kernel) (by decide) (by decide) sh_237 ?_
  refine mm_dup (pc := 1565) dX12_init_1565 rfl ?_
  refine mm_iconst (pc := 1566) (x := 0) dX12_init_1566 rfl ?_
  refine mm_bipush (pc := 1567) (x := 104) dX12_init_1567 rfl ?_
  refine mm_castore (pc := 1569) (N := 4) dX12_init_1569 (ct_sh sh_237 (by decide)) (mm_vin (k := 0) rfl (by decide) (by decide)) ?_
  refine mm_dup (pc := 1570) dX12_init_1570 rfl ?_
  refine mm_iconst (pc := 1571) (x := 1) dX12_init_1571 rfl ?_
  refine mm_bipush (pc := 1572) (x := 97) dX12_init_1572 rfl ?_
  refine mm_castore (pc := 1574) (N := 4) dX12_init_1574 (ct_sh sh_237 (by decide)) (mm_vin (k := 1) rfl (by decide) (by decide)) ?_
  refine mm_dup (pc := 1575) dX12_init_1575 rfl ?_
  refine mm_iconst (pc := 1576) (x := 2) dX12_init_1576 rfl ?_
  refine mm_bipush (pc := 1577) (x := 116) dX12_init_1577 rfl ?_
  refine mm_castore (pc := 1579) (N := 4) dX12_init_1579 (ct_sh sh_237 (by decide)) (mm_vin (k := 2) rfl (by decide) (by decide)) ?_
  refine mm_dup (pc := 1580) dX12_init_1580 rfl ?_
  refine mm_iconst (pc := 1581) (x := 3) dX12_init_1581 rfl ?_
  refine mm_bipush (pc := 1582) (x := 101) dX12_init_1582 rfl ?_
  refine mm_castore (pc := 1584) (N := 4) dX12_init_1584 (ct_sh sh_237 (by decide)) (mm_vin (k := 3) rfl (by decide) (by decide)) ?_
  refine mm_putR (pc := 1585) (ci := 12) (N := 116) dX12_init_1585 fX12_237 (ct_sh sh_164 (by decide)) (by decide +kernel) rfl ?_
  refine mm_aload_n (pc := 1588) (j := 0) dX12_init_1588 rfl rfl ?_
  refine mm_bipush (pc := 1589) (x := 6) dX12_init_1589 rfl ?_
  refine ct_newarr (pc := 1591) (c := 238) (k := 73) (n := 34437) (N := 6) dX12_init_1591 rfl (Or.inr (Or.inr (Or.inl ⟨rfl, rfl⟩))) qa2 (by decide +kernel) (by decide +kernel) (by decide +kernel) (by decide) (by decide) sh_238 ?_
  refine mm_dup (pc := 1593) dX12_init_1593 rfl ?_
  refine mm_iconst (pc := 1594) (x := 0) dX12_init_1594 rfl ?_
  refine mm_bipush (pc := 1595) (x := 116) dX12_init_1595 rfl ?_
  refine mm_castore (pc := 1597) (N := 6) dX12_init_1597 (ct_sh sh_238 (by decide)) (mm_vin (k := 0) rfl (by decide) (by decide)) ?_
  refine mm_dup (pc := 1598) dX12_init_1598 rfl ?_
  refine mm_iconst (pc := 1599) (x := 1) dX12_init_1599 rfl ?_
  refine mm_bipush (pc := 1600) (x := 97) dX12_init_1600 rfl ?_
  refine mm_castore (pc := 1602) (N := 6) dX12_init_1602 (ct_sh sh_238 (by decide)) (mm_vin (k := 1) rfl (by decide) (by decide)) ?_
  refine mm_dup (pc := 1603) dX12_init_1603 rfl ?_
  refine mm_iconst (pc := 1604) (x := 2) dX12_init_1604 rfl ?_
  refine mm_bipush (pc := 1605) (x := 115) dX12_init_1605 rfl ?_
  refine mm_castore (pc := 1607) (N := 6) dX12_init_1607 (ct_sh sh_238 (by decide)) (mm_vin (k := 2) rfl (by decide) (by decide)) ?_
  refine mm_dup (pc := 1608) dX12_init_1608 rfl ?_
  refine mm_iconst (pc := 1609) (x := 3) dX12_init_1609 rfl ?_
  refine mm_bipush (pc := 1610) (x := 116) dX12_init_1610 rfl ?_
  refine mm_castore (pc := 1612) (N := 6) dX12_init_1612 (ct_sh sh_238 (by decide)) (mm_vin (k := 3) rfl (by decide) (by decide)) ?_
  refine mm_dup (pc := 1613) dX12_init_1613 rfl ?_
  refine mm_iconst (pc := 1614) (x := 4) dX12_init_1614 rfl ?_
  refine mm_bipush (pc := 1615) (x := 101) dX12_init_1615 rfl ?_
  refine mm_castore (pc := 1617) (N := 6) dX12_init_1617 (ct_sh sh_238 (by decide)) (mm_vin (k := 4) rfl (by decide) (by decide)) ?_
  refine mm_dup (pc := 1618) dX12_init_1618 rfl ?_
  refine mm_iconst (pc := 1619) (x := 5) dX12_init_1619 rfl ?_
  refine mm_bipush (pc := 1620) (x := 115) dX12_init_1620 rfl ?_
  refine mm_castore (pc := 1622) (N := 6) dX12_init_1622 (ct_sh sh_238 (by decide)) (mm_vin (k := 5) rfl (by decide) (by decide)) ?_
  refine mm_putR (pc := 1623) (ci := 12) (N := 116) dX12_init_1623 fX12_240 (ct_sh sh_164 (by decide)) (by decide +kernel) rfl ?_
  refine mm_aload_n (pc := 1626) (j := 0) dX12_init_1626 rfl rfl ?_
  refine mm_sipush (pc := 1627) (x := 1700) dX12_init_1627 rfl ?_
  refine ct_newarr (pc := 1630) (c := 239) (k := 74) (n := 34443) (N := 1700) dX12_init_1630 rfl (Or.inl ⟨rfl, rfl⟩) qa0 (by decide +kernel) (by decide +kernel) (by decide +kernel) (by decide) (by decide) sh_239 ?_
  refine mm_putR (pc := 1632) (ci := 12) (N := 116) dX12_init_1632 fX12_243 (ct_sh sh_164 (by decide)) (by decide +kernel) rfl ?_
  refine mm_aload_n (pc := 1635) (j := 0) dX12_init_1635 rfl rfl ?_
  refine mm_sipush (pc := 1636) (x := 1700) dX12_init_1636 rfl ?_
  refine ct_newarr (pc := 1639) (c := 240) (k := 75) (n := 36143) (N := 1700) dX12_init_1639 rfl (Or.inl ⟨rfl, rfl⟩) qa0 (by decide +kernel) (by decide +kernel) (by decide +kernel) (by decide) (by decide) sh_240 ?_
  refine mm_putR (pc := 1641) (ci := 12) (N := 116) dX12_init_1641 fX12_246 (ct_sh sh_164 (by decide)) (by decide +kernel) rfl ?_
  refine mm_aload_n (pc := 1644) (j := 0) dX12_init_1644 rfl rfl ?_
  refine mm_sipush (pc := 1645) (x := 1700) dX12_init_1645 rfl ?_
  refine ct_newarr (pc := 1648) (c := 241) (k := 76) (n := 37843) (N := 1700) dX12_init_1648 rfl (Or.inr (Or.inl ⟨rfl, rfl⟩)) qa1 (by decide +kernel) (by decide +kernel) (by decide +kernel) (by decide) (by decide) sh_241 ?_
  refine mm_putR (pc := 1650) (ci := 12) (N := 116) dX12_init_1650 fX12_249 (ct_sh sh_164 (by decide)) (by decide +kernel) rfl ?_
  refine mm_aload_n (pc := 1653) (j := 0) dX12_init_1653 rfl rfl ?_
  refine mm_bipush (pc := 1654) (x := 45) dX12_init_1654 rfl ?_
  refine ct_newarr (pc := 1656) (c := 242) (k := 77) (n := 39543) (N := 45) dX12_init_1656 rfl (Or.inl ⟨rfl, rfl⟩) qa0 (by decide +kernel) (by decide +kernel) (by decide +kernel) (by decide) (by decide) sh_242 ?_
  refine mm_putR (pc := 1658) (ci := 12) (N := 116) dX12_init_1658 fX12_252 (ct_sh sh_164 (by decide)) (by decide +kernel) rfl ?_
  exact mm_vret (pc := 1661) dX12_init_1661 rfl (by decide) (by decide) ⟨rfl, rfl, h⟩
