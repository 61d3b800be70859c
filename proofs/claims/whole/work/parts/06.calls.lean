/-! returns, new cells, calls -/
theorem mm_lvargs (b : Nat) : ∀ (vs : List Value) (i : Nat), lv_args i (vs.map (mm_v b)) = mm_lv b (lv_args i vs)
  | [], _ => rfl
  | v :: vs, i => by
    simp only [List.map_cons, lv_args, mm_v_cat]
    rw [mm_lvargs b vs]
theorem mm_sl (b : Nat) (vs : List Value) : (lg_sl (vs.map (mm_v b))).length = (lg_sl vs).length := by
  induction vs with
  | nil => rfl
  | cons v vs ih =>
    have e1 : ∀ (u : Value) (us : List Value), (lg_sl (u :: us)).length = (if u.category = 2 then 2 else 1) + (lg_sl us).length := by
      intro u us
      show ((if u.category = 2 then [Slot.val u, Slot.second] else [Slot.val u]) ++ lg_sl us).length = _
      split <;> simp <;> omega
    rw [List.map_cons, e1, e1, ih, mm_v_cat]
theorem mm_cats (b : Nat) (st : List Value) : ((st.map (mm_v b)).map fun v => v.category) = st.map fun v => v.category := by
  rw [List.map_map]
  congr 1
  funext v
  exact mm_v_cat b v
abbrev mm_wsY (y : mm_Y) : List Cond := Cond.code y.1 y.2.1 y.2.2.1 y.2.2.2 :: mm_ws
section MMR
variable {y : mm_Y} {d mc ms pc : Nat} {lv lv' : List (Nat × Value)} {st : List Value} {sh : mm_S} {M : mm_M} {k n : Nat} {Q : Option Value → mm_S → mm_M → Prop}
theorem mm_zret {x : Int32} {ty : FieldType} (hd : decode y.2.1 pc = .ok (.ireturn, 1)) (hr : y.2.2.2 = some ty) (hn : narrow ty (.int x) = .int x) (h1 : k ≤ mc) (h2 : n ≤ ms) (hq : Q (some (.int x)) sh M) : mm_W y d mc ms pc lv [.int x] sh M k n Q := by
  intro b aT D p l e s m args below meth c H locs ls X hP hz hS hl
  have hlk : meth.locks = false := X.2.2.2.2.2.2.1
  exact W.widen h1 h2 (W.zret X.1 X.2.1 (X.2.2.2.2.2.1.trans hr) hn (fun t ht hW => ⟨⟨some (.int x), sh, M, rfl, hq, by rw [ht]; exact hP, by rw [ht]; exact hz⟩, hS.F ht⟩) hS.2.2 hd hlk)
theorem mm_iret {x : Int32} (hd : decode y.2.1 pc = .ok (.ireturn, 1)) (hr : y.2.2.2 = some .int) (h1 : k ≤ mc) (h2 : n ≤ ms) (hq : Q (some (.int x)) sh M) : mm_W y d mc ms pc lv [.int x] sh M k n Q := mm_zret hd hr rfl h1 h2 hq
theorem mm_lret {x : Int64} (hd : decode y.2.1 pc = .ok (.lreturn, 1)) (hr : y.2.2.2 = some .long) (h1 : k ≤ mc) (h2 : n ≤ ms) (hq : Q (some (.long x)) sh M) : mm_W y d mc ms pc lv [.long x] sh M k n Q := by
  intro b aT D p l e s m args below meth c H locs ls X hP hz hS hl
  have hlk : meth.locks = false := X.2.2.2.2.2.2.1
  exact W.widen h1 h2 (W.lret X.1 X.2.1 (X.2.2.2.2.2.1.trans hr) (fun t ht hW => ⟨⟨some (.long x), sh, M, rfl, hq, by rw [ht]; exact hP, by rw [ht]; exact hz⟩, hS.F ht⟩) hS.2.2 hd hlk)
theorem mm_vret (hd : decode y.2.1 pc = .ok (.return_, 1)) (hr : y.2.2.2 = none) (h1 : k ≤ mc) (h2 : n ≤ ms) (hq : Q none sh M) : mm_W y d mc ms pc lv [] sh M k n Q := by
  intro b aT D p l e s m args below meth c H locs ls X hP hz hS hl
  have hlk : meth.locks = false := X.2.2.2.2.2.2.1
  exact W.widen h1 h2 (W.vret X.1 X.2.1 (X.2.2.2.2.2.1.trans hr) (fun t ht hW => ⟨⟨none, sh, M, rfl, hq, by rw [ht]; exact hP, by rw [ht]; exact hz⟩, hS.F ht⟩) hS.2.2 hd hlk)
theorem mm_aret {a : Nat} {C : String} (hd : decode y.2.1 pc = .ok (.areturn, 1)) (hr : y.2.2.2 = some (.object C)) (h1 : k ≤ mc) (h2 : n ≤ ms) (hq : Q (some (.ref a)) sh M) : mm_W y d mc ms pc lv [.ref a] sh M k n Q := by
  intro b aT D p l e s m args below meth c H locs ls X hP hz hS hl
  have hlk : meth.locks = false := X.2.2.2.2.2.2.1
  exact W.widen h1 h2 (W.aret X.1 X.2.1 (X.2.2.2.2.2.1.trans hr) (Or.inl ⟨_, rfl⟩) (Or.inr ⟨b + a, rfl⟩) (fun t ht hW => ⟨⟨some (.ref a), sh, M, rfl, hq, by rw [ht]; exact hP, by rw [ht]; exact hz⟩, hS.F ht⟩) hS.2.2 hd hlk)
/-- a new array of whole numbers -/
theorem mm_newarr {t N : Nat} {atype : ArrayType} {x : Int32} {ty : FieldType} (hd : decode y.2.1 pc = .ok (.newarray atype, 2)) (hty : newarray.typeOf atype = ty) (ht : (t = 0 ∧ ty = .int) ∨ (t = 1 ∧ ty = .long) ∨ (t = 2 ∧ ty = .char) ∨ (t = 3 ∧ ty = .boolean)) (harr : Cond.arrayClass ty ∈ mm_ws) (hx : ¬ x < 0) (hN : x.toNatClampNeg = N) (hby : N * componentBytes ty ≤ 536870912) (h1 : k + 1 ≤ mc) (h2 : n + N ≤ ms)
    (kk : mm_W y d mc ms (pc + 2) lv (.ref sh.length :: st) (sh ++ [(t, N)]) (mm_new M sh.length) (k + 1) (n + N) Q) : mm_W y d mc ms pc lv (.int x :: st) sh M k n Q := by
  intro b aT D p l e s m args below meth c H locs ls X hP hz hS hl
  subst hty
  have hK := X.2.2.2.2.2.2.2.2.1.1
  refine va_newaK (g := F0 m pc ls (.int x :: st.map (mm_v b))) X.1 X.2.1 (X.2.2.2.2.1 _ harr) rfl hd rfl hx hN hby h1 h2 hz fun H1 cA e1 z1 o1 hAr hNm => ?_
  have hfin : ∀ (q : vp_A), vp_cell (aT t) q = arrV (aT t) N (fun _ => defaultValue (newarray.typeOf atype)) → mm_c b aT (mm_new M sh.length) sh.length (t, N) = .inl (aT t, q) → cA = aT t → W p l e (mm_R d mc ms) s m args below meth c H1 locs (k + 1) (n + N) (MQ below (mm_Qc b aT D Q) args s mc ms (fun q => b ≤ q)) (F0 m (pc + 2) ls (.ref (b + sh.length) :: st.map (mm_v b))) := by
    intro q hq hc hA
    have hP1 : va_P D vwCl (mm_w b aT (sh ++ [(t, N)]) (mm_new M sh.length)) H1 := mm_P_push hP (fun q hq2 => o1 q (by rw [← hz]; exact hq2)) (by
      rw [hc]
      show H1[b + sh.length]? = some (vp_cell (aT t) q)
      rw [hq, e1, hA])
    exact kk b aT D p l e s m args below meth c H1 locs ls X hP1 (by rw [z1, List.length_append]; rfl) ⟨Nat.le_trans hS.1 (by omega), fun q g1 g2 => (o1 q (by rw [← hz]; exact Nat.lt_of_lt_of_le g1 hS.1)).trans (hS.2.1 q g1 g2), hS.2.2⟩ hl
  rcases ht with ⟨rfl, hq⟩ | ⟨rfl, hq⟩ | ⟨rfl, hq⟩ | ⟨rfl, hq⟩
  · refine hfin (N, .inl (fun _ => 0)) (by rw [hq]; rfl) (by simp [mm_c, mm_new, va_up]) ?_
    have h9 : s.vm.findClass ("[" ++ FieldType.int.toString) = some (aT 0) := (hK.2 0 _ rfl).2
    rw [hq] at hNm
    exact Option.some.inj (hNm.symm.trans h9)
  · refine hfin (N, .inr (.inl (fun _ => 0))) (by rw [hq]; rfl) (by simp [mm_c, mm_new, va_up]) ?_
    have h9 : s.vm.findClass ("[" ++ FieldType.long.toString) = some (aT 1) := (hK.2 1 _ rfl).2
    rw [hq] at hNm
    exact Option.some.inj (hNm.symm.trans h9)
  · refine hfin (N, .inl (fun _ => 0)) (by rw [hq]; rfl) (by simp [mm_c, mm_new, va_up]) ?_
    have h9 : s.vm.findClass ("[" ++ FieldType.char.toString) = some (aT 2) := (hK.2 2 _ rfl).2
    rw [hq] at hNm
    exact Option.some.inj (hNm.symm.trans h9)
  · refine hfin (N, .inl (fun _ => 0)) (by rw [hq]; rfl) (by simp [mm_c, mm_new, va_up]) ?_
    have h9 : s.vm.findClass ("[" ++ FieldType.boolean.toString) = some (aT 3) := (hK.2 3 _ rfl).2
    rw [hq] at hNm
    exact Option.some.inj (hNm.symm.trans h9)
/-- a new array of states -/
theorem mm_newq {N idx : Nat} {x : Int32} (hd : decode y.2.1 pc = .ok (.anewarray idx, 3)) (hcl : Cond.classLink y.1.cls idx "EnemyBread$State" ∈ mm_ws) (hx : ¬ x < 0) (hN : x.toNatClampNeg = N) (hby : N * 4 ≤ 536870912) (h1 : k + 1 ≤ mc) (h2 : n + N ≤ ms)
    (kk : mm_W y d mc ms (pc + 3) lv (.ref sh.length :: st) (sh ++ [(4, N)]) (mm_new M sh.length) (k + 1) (n + N) Q) : mm_W y d mc ms pc lv (.int x :: st) sh M k n Q := by
  intro b aT D p l e s m args below meth c H locs ls X hP hz hS hl
  have hK := X.2.2.2.2.2.2.2.2.1.1
  subst hN
  refine W.anew (g := F0 m pc ls (.int x :: st.map (mm_v b))) X.1 X.2.1 X.2.2.2.1 (X.2.2.2.2.1 _ hcl) (va_AO.use X.2.2.2.2.2.2.2.2.1.2.2) rfl hd rfl hx hby h1 h2 fun cA kA comp f1 f2 f3 f4 => ?_
  generalize hH1 : H.push ({ cls := cA, slots := Array.replicate x.toNatClampNeg .null, vm := .none } : Cell) = H1
  have z1 : H1.size = H.size + 1 := by rw [← hH1, Array.size_push]
  have e1 : H1[H.size]? = some (arrV cA x.toNatClampNeg (fun _ => .null)) := by rw [← hH1, Array.getElem?_push_size, ← arrV_new]
  have o1 : ∀ q : Nat, q < H.size → H1[q]? = H[q]? := fun q hq => by rw [← hH1, Array.getElem?_push, if_neg (Nat.ne_of_lt hq)]
  obtain ⟨kA', comp', g1, g2, g3, g4⟩ : va_RA s (aT 4) (.object "EnemyBread$State") := (hK.2 4 _ rfl).2
  have hA : cA = aT 4 := Option.some.inj (f1.symm.trans g4)
  have hP1 : va_P D vwCl (mm_w b aT (sh ++ [(4, x.toNatClampNeg)]) (mm_new M sh.length)) H1 := mm_P_push hP o1 (by
    show H1[b + sh.length]? = some (vp_cell _ _)
    rw [← hz, e1, hA]
    simp [mm_new, va_up, vp_cell, va_rf])
  rw [hz]
  exact kk b aT D p l e s m args below meth c H1 locs ls X hP1 (by rw [z1, hz, List.length_append]; rfl) ⟨Nat.le_trans hS.1 (by omega), fun q g1 g2 => (o1 q (Nat.lt_of_lt_of_le g1 hS.1)).trans (hS.2.1 q g1 g2), hS.2.2⟩ hl
/-- a new object -/
theorem mm_newo {N ci idx : Nat} {C : String} {T : u_T} (hd : decode y.2.1 pc = .ok (.new idx, 3)) (hc : vwCl[ci]? = some (C, T, N)) (hcl : Cond.classLink y.1.cls idx C ∈ mm_ws) (hins : Cond.instantiable C N ∈ mm_ws) (hini : Cond.initialized C ∈ mm_ws) (hkd : ∀ j, j < N → mm_kd (mm_ty ci j) < 3) (h1 : k + 1 ≤ mc) (h2 : n + N ≤ ms)
    (kk : mm_W y d mc ms (pc + 3) lv (.ref sh.length :: st) (sh ++ [(ci + 5, N)]) (mm_new M sh.length) (k + 1) (n + N) Q) : mm_W y d mc ms pc lv st sh M k n Q := by
  intro b aT D p l e s m args below meth c H locs ls X hP hz hS hl
  have hK := X.2.2.2.2.2.2.2.2.1.1
  obtain ⟨hin, hty, hnm⟩ := mm_cls hc
  have hKn := hK.1 ci _ hc
  refine W.newcK (g := F0 m pc ls (st.map (mm_v b))) X.1 X.2.1 X.2.2.2.1 (X.2.2.2.2.1 _ hcl) (X.2.2.2.2.1 _ hins) (X.2.2.2.2.1 _ hini) rfl hd h1 h2 hKn.2.1 hz fun H1 kC hkC e1 z1 o1 => ?_
  have hP1 : va_P D vwCl (mm_w b aT (sh ++ [(ci + 5, N)]) (mm_new M sh.length)) H1 := mm_P_push hP (fun q hq2 => o1 q (by rw [← hz]; exact hq2)) (by
    refine ⟨_, hc, (u_born (mm_ty ci) X.2.2.2.2.1 hin hKn hkC e1 hty).to (fun j hj => ?_)⟩
    have hj3 := hkd j hj
    show defaultValue (mm_ty ci j) = ((List.range N).map _).getD j .null
    rw [List.getD_eq_getElem?_getD, mm_fs_at hj]
    cases h : mm_ty ci j <;> rw [h] at hj3 <;> first | (simp [mm_kd] at hj3; done) | (simp [mm_kd, mm_fv, mm_new, va_up, defaultValue, va_rf]))
  exact kk b aT D p l e s m args below meth c H1 locs ls X hP1 (by rw [z1, List.length_append]; rfl) ⟨Nat.le_trans hS.1 (by omega), fun q g1 g2 => (o1 q (by rw [← hz]; exact Nat.lt_of_lt_of_le g1 hS.1)).trans (hS.2.1 q g1 g2), hS.2.2⟩ hl
theorem mm_objInit {a idx : Nat} (hd : decode y.2.1 pc = .ok (.invokespecial idx, 3)) (hlk : Cond.methodLink y.1.cls idx Lib.objectInit ∈ mm_ws) (hin : Cond.instanceMethod Lib.objectInit ∈ mm_ws) (hco : Cond.code Lib.objectInit ⟨#[0xb1]⟩ 1 none ∈ mm_ws) (hw : (st.map fun v => v.category).sum ≤ 8) (kk : mm_W y (d + 1) mc ms (pc + 3) lv st sh M k n Q) : mm_W y (d + 1) mc ms pc lv (.ref a :: st) sh M k n Q := by
  intro b aT D p l e s m args below meth c H locs ls X hP hz hS hl
  refine W.objInit (g := F0 m pc ls (.ref (b + a) :: st.map (mm_v b))) (rest := st.map (mm_v b)) X.1 X.2.1 X.2.2.2.1 (X.2.2.2.2.1 _ hlk) (X.2.2.2.2.1 _ hin) (X.2.2.2.2.1 _ hco) rfl (by rw [X.2.2.1]; exact hl.1) rfl hd (by show 1 ≤ d + 1; omega) (by show 2 * 0 + _ + 12 ≤ 60 * (d + 1); rw [mm_cats]; omega) (kk b aT D p l e s m args below meth c H locs ls X hP hz hS hl)
end MMR
/-! calls -/
theorem mm_met (l : Launch) (b : Nat) (aT : Nat → ClassId) (D : va_G) {y : mm_Y} {d mc ms : Nat} {vs : List Value} {sh : mm_S} {M : mm_M} {Q : Option Value → mm_S → mm_M → Prop} (hy : plainName y.1.cls = true) (hn : (lg_sl vs).length ≤ y.2.2.1) (h : mm_C y d mc ms vs sh M Q) :
    Met l y.1 (mm_wsY y) (mm_R d mc ms) (va_Pc (vs.map (mm_v b)) (fun U => va_P D vwCl (mm_w b aT sh M) U.heap ∧ U.heap.size = b + sh.length ∧ mm_k aT D U ∧ mm_t b U)) (mm_Qc b aT D Q) mc ms (fun q => b ≤ q) := by
  refine Met.ofW (cc := y.2.1) (maxL := y.2.2.1) (ret := y.2.2.2) hy rfl ?_
  intro p e s m args below meth c s₁ B hml hv
  obtain ⟨rfl, hP, hz, hK, hX⟩ := hv
  have hts := atoms_spec (ws := mm_wsY y) B.pre
  have hown : s.vm.findClass y.1.cls = some m.cls := findClass_of_methodNamed B.named
  have hl := lv_entry (vs.map (mm_v b)) (n := y.2.2.1) (by rw [mm_sl]; exact hn)
  rw [lg_entry_eq]
  rw [mm_lvargs] at hl
  exact h b aT D p l e s m _ below meth c s.heap [] _ ⟨B.exec, B.bytes, hml, hown, fun w hw => hts w (List.mem_cons_of_mem _ hw), B.returns, B.notSynchronized, (name_of_methodNamed B.named B.method).1, hK, by rw [hz]; exact Nat.le_add_right _ _, hX⟩ hP hz va_S.rf hl
section MMG
variable {p : Program} {l : Launch} {e : Env} {R : Room} {s : State} {m : MethodId} {args : Array Value} {below : List Frame} {meth : Method} {c : Code} {H : Heap} {locs : List Loc} {cells slots : Nat} {Z : State → Prop}
theorem mm_goon {b mc ms pc : Nat} {aT : Nat → ClassId} {D : va_G} {Q : Option Value → mm_S → mm_M → Prop} {ls : Array Slot} {rest st0 : List Value} {a : Array Value} {H0 : Heap} (hr : va_Run p l e R s m args below meth c H locs cells slots mc ms (F0 m pc ls st0) rest (mm_Qc b aT D Q a) (fun q => b ≤ q)) (hS : va_S (fun q => b ≤ q) H0 H locs)
    (kk : ∀ (r : Option Value) (sh' : mm_S) (M' : mm_M) (H1 : Heap) (locs1 : List Loc), Q r sh' M' → va_P D vwCl (mm_w b aT sh' M') H1 → H1.size = b + sh'.length → va_S (fun q => b ≤ q) H0 H1 locs1 → W p l e R s m args below meth c H1 locs1 (cells + mc) (slots + ms) Z (F0 m (pc + 3) ls ((r.map (mm_v b)).toList ++ rest))) : W p l e R s m args below meth c H locs cells slots Z (F0 m pc ls st0) := by
  intro T hT X
  obtain ⟨v, st₀, t, T', L, h0, X', hL, e1, e2, ⟨⟨r, sh', M', hv, hq, hP1, hz1⟩, hzz, hk⟩, st⟩ := hr T hT X
  cases hv
  rw [h0] at hzz hk
  obtain ⟨t2, a1, b1⟩ := kk r sh' M' T'.heap (locs ++ L) hq (by rw [e1]; exact hP1) (by rw [e1]; exact hz1) ⟨Nat.le_trans hS.1 (by rw [e1]; exact hzz), fun q g1 g2 => by rw [e1, hk q (Nat.lt_of_lt_of_le g1 hS.1) g2]; exact hS.2.1 q g1 g2, fun q hq => by
      rcases List.mem_append.mp hq with h | h
      · exact hS.2.2 q h
      · exact hL q h⟩ T' rfl X'
  exact ⟨t2, st t2 a1, b1⟩
end MMG
/-- what the tables say of a call's method -/
def mm_B (y : mm_Y) (n : Nat) : Prop := Cond.initialized y.1.cls ∈ mm_ws ∧ Cond.code y.1 y.2.1 y.2.2.1 y.2.2.2 ∈ mm_ws ∧ (y.1.cls ≠ "java/lang/invoke/MethodHandle" ∧ y.1.cls ≠ "java/lang/invoke/VarHandle" ∧ (parseMethodDescriptor y.1.desc).map (fun d => d.parameters.length) = some n) ∧ plainName y.1.cls = true ∧ y.2.2.1 ≤ 41
theorem mm_blind {b : Nat} {aT : Nat → ClassId} {D : va_G} {sh : mm_S} {M : mm_M} {vs : List Value} : FrameBlind (va_Pc vs (fun U => va_P D vwCl (mm_w b aT sh M) U.heap ∧ U.heap.size = b + sh.length ∧ mm_k aT D U ∧ mm_t b U)) := fun _ _ _ _ q => ⟨q.1, q.2.1, q.2.2.1, mm_k_call q.2.2.2.1, mm_t_call q.2.2.2.2⟩
section MMK
variable {y y' : mm_Y} {d mc ms pc mc' ms' idx : Nat} {lv : List (Nat × Value)} {st As rest : List Value} {sh : mm_S} {M : mm_M} {k n : Nat} {Q : Option Value → mm_S → mm_M → Prop}
theorem mm_callV {a ci N : Nat} {r : vw_C} (hd : decode y.2.1 pc = .ok (.invokevirtual idx, 3)) (hlk : Cond.methodLink y.1.cls idx y'.1 ∈ mm_ws) (hB : mm_B y' As.length) (hin : Cond.instanceMethod y'.1 ∈ mm_ws) (hse : Cond.selects y'.1.cls y'.1 y'.1 ∈ mm_ws) (hst : st = As.reverse ++ .ref a :: rest) (hsh : sh[a]? = some (ci + 5, N)) (hc : vwCl[ci]? = some r) (hrn : r.1 = y'.1.cls) (hw : (rest.map fun v => v.category).sum ≤ 8) (hln : (lg_sl (.ref a :: As)).length ≤ y'.2.2.1) (h1 : k + mc' ≤ mc) (h2 : n + ms' ≤ ms)
    (kk : mm_C y' d mc' ms' (.ref a :: As) sh M (fun r sh' M' => mm_W y (d + 1) mc ms (pc + 3) lv (r.toList ++ rest) sh' M' (k + mc') (n + ms') Q)) : mm_W y (d + 1) mc ms pc lv st sh M k n Q := by
  subst hst
  intro b aT D p l e s m args below meth c H locs ls X hP hz hS hl
  have hK := X.2.2.2.2.2.2.2.2.1
  have hts := X.2.2.2.2.1
  obtain ⟨w1, w2, hy, hpn, hml⟩ := hB
  have hst2 : ((As.reverse ++ .ref a :: rest).map (mm_v b)) = (As.map (mm_v b)).reverse ++ .ref (b + a) :: rest.map (mm_v b) := by
    rw [List.map_append, List.map_reverse]; rfl
  rw [hst2]
  refine mm_goon (va_runV (As := As.map (mm_v b)) (rest := rest.map (mm_v b)) (C := y'.1.cls) (b := b + a) ⟨X.1, X.2.1, X.2.2.1, X.2.2.2.1, hts⟩ (mm_met l b aT D hpn hln kk) (cwV As.length hts (mm_good (fun w hw => ?_)) rfl rfl rfl ⟨rfl, hy⟩ ⟨Nat.le_refl _, by show 8 + (y'.2.2.1 + 11) + 60 * d ≤ 60 * (d + 1); omega⟩) ⟨mm_blind, by
      have := va_recv hK.1 hP hc (mm_w_at hsh)
      rw [hrn] at this
      exact this, fun U hU hW => ⟨rfl, by rw [hU]; exact hP, by rw [hU]; exact hz, mm_k_warm hW hK, mm_t_step hS hU hW X.2.2.2.2.2.2.2.2.2.2⟩⟩ rfl (by rw [List.length_map]) hl.1 rfl (lv_room (by rw [mm_cats]; exact hw)) hd ⟨h1, h2⟩) hS (fun r sh' M' H1 locs1 hq hP1 hz1 hS1 => ?_)
  · simp only [wsV, List.mem_append, List.mem_cons, List.not_mem_nil, or_false] at hw
    rcases hw with (rfl | rfl | rfl | rfl) | (rfl | hw)
    · exact hlk
    · exact hin
    · exact hse
    · exact w1
    · exact w2
    · exact hw
  · cases r <;> exact hq b aT D p l e s m args below meth c H1 locs1 ls X hP1 hz1 hS1 hl
theorem mm_callVN {a ci N : Nat} {r : vw_C} {host : String} (hd : decode y.2.1 pc = .ok (.invokevirtual idx, 3)) (hlk : Cond.methodLinkNest y.1.cls idx y'.1 host ∈ mm_nest) (hB : mm_B y' As.length) (hin : Cond.instanceMethod y'.1 ∈ mm_ws) (hse : Cond.selects y'.1.cls y'.1 y'.1 ∈ mm_ws) (hst : st = As.reverse ++ .ref a :: rest) (hsh : sh[a]? = some (ci + 5, N)) (hc : vwCl[ci]? = some r) (hrn : r.1 = y'.1.cls) (hw : (rest.map fun v => v.category).sum ≤ 8) (hln : (lg_sl (.ref a :: As)).length ≤ y'.2.2.1) (h1 : k + mc' ≤ mc) (h2 : n + ms' ≤ ms)
    (kk : mm_C y' d mc' ms' (.ref a :: As) sh M (fun r sh' M' => mm_W y (d + 1) mc ms (pc + 3) lv (r.toList ++ rest) sh' M' (k + mc') (n + ms') Q)) : mm_W y (d + 1) mc ms pc lv st sh M k n Q := by
  subst hst
  intro b aT D p l e s m args below meth c H locs ls X hP hz hS hl
  have hK := X.2.2.2.2.2.2.2.2.1
  have hts := X.2.2.2.2.1
  obtain ⟨w1, w2, hy, hpn, hml⟩ := hB
  have hst2 : ((As.reverse ++ .ref a :: rest).map (mm_v b)) = (As.map (mm_v b)).reverse ++ .ref (b + a) :: rest.map (mm_v b) := by
    rw [List.map_append, List.map_reverse]; rfl
  rw [hst2]
  refine mm_goon (va_runVN (As := As.map (mm_v b)) (rest := rest.map (mm_v b)) (C := y'.1.cls) (b := b + a) ⟨X.1, X.2.1, X.2.2.1, X.2.2.2.1, hts⟩ (mm_met l b aT D hpn hln kk) ⟨va_cnB As.length hts (mm_good (fun w hw => ?_)) rfl rfl rfl (hK.2.1 _ hlk) (hts _ w1) hy ⟨Nat.le_refl _, by show 8 + (y'.2.2.1 + 11) + 60 * d ≤ 60 * (d + 1); omega⟩, hts _ hin, hts _ hse⟩ ⟨mm_blind, by
      have := va_recv hK.1 hP hc (mm_w_at hsh)
      rw [hrn] at this
      exact this, fun U hU hW => ⟨rfl, by rw [hU]; exact hP, by rw [hU]; exact hz, mm_k_warm hW hK, mm_t_step hS hU hW X.2.2.2.2.2.2.2.2.2.2⟩⟩ rfl (by rw [List.length_map]) hl.1 rfl (lv_room (by rw [mm_cats]; exact hw)) hd ⟨h1, h2⟩) hS (fun r sh' M' H1 locs1 hq hP1 hz1 hS1 => ?_)
  · rcases List.mem_cons.mp hw with rfl | hw
    · exact w2
    · exact hw
  · cases r <;> exact hq b aT D p l e s m args below meth c H1 locs1 ls X hP1 hz1 hS1 hl
theorem mm_callS (hd : decode y.2.1 pc = .ok (.invokestatic idx, 3)) (hlk : Cond.methodLink y.1.cls idx y'.1 ∈ mm_ws) (hB : mm_B y' As.length) (hss : Cond.static y'.1 ∈ mm_ws) (hst : st = As.reverse ++ rest) (hw : (rest.map fun v => v.category).sum ≤ 8) (hln : (lg_sl As).length ≤ y'.2.2.1) (h1 : k + mc' ≤ mc) (h2 : n + ms' ≤ ms)
    (kk : mm_C y' d mc' ms' As sh M (fun r sh' M' => mm_W y (d + 1) mc ms (pc + 3) lv (r.toList ++ rest) sh' M' (k + mc') (n + ms') Q)) : mm_W y (d + 1) mc ms pc lv st sh M k n Q := by
  subst hst
  intro b aT D p l e s m args below meth c H locs ls X hP hz hS hl
  have hK := X.2.2.2.2.2.2.2.2.1
  have hts := X.2.2.2.2.1
  obtain ⟨w1, w2, hy, hpn, hml⟩ := hB
  have hst2 : ((As.reverse ++ rest).map (mm_v b)) = (As.map (mm_v b)).reverse ++ rest.map (mm_v b) := by
    rw [List.map_append, List.map_reverse]
  rw [hst2]
  refine mm_goon (va_runS (As := As.map (mm_v b)) (rest := rest.map (mm_v b)) ⟨X.1, X.2.1, X.2.2.1, X.2.2.2.1, hts⟩ (mm_met l b aT D hpn hln kk) (va_cwS As.length hts (mm_good (fun w hw => ?_)) rfl rfl rfl hy ⟨Nat.le_refl _, by show 8 + (y'.2.2.1 + 11) + 60 * d ≤ 60 * (d + 1); omega⟩) ⟨mm_blind, fun U hU hW => ⟨rfl, by rw [hU]; exact hP, by rw [hU]; exact hz, mm_k_warm hW hK, mm_t_step hS hU hW X.2.2.2.2.2.2.2.2.2.2⟩⟩ rfl (by rw [List.length_map]) hl.1 rfl (lv_room (by rw [mm_cats]; exact hw)) hd ⟨h1, h2⟩) hS (fun r sh' M' H1 locs1 hq hP1 hz1 hS1 => ?_)
  · simp only [va_wsS, List.mem_append, List.mem_cons, List.not_mem_nil, or_false] at hw
    rcases hw with (rfl | rfl | rfl) | (rfl | hw)
    · exact hlk
    · exact hss
    · exact w1
    · exact w2
    · exact hw
  · cases r <;> exact hq b aT D p l e s m args below meth c H1 locs1 ls X hP1 hz1 hS1 hl
theorem mm_callI {a : Nat} (hd : decode y.2.1 pc = .ok (.invokespecial idx, 3)) (hlk : Cond.methodLink y.1.cls idx y'.1 ∈ mm_ws) (hB : mm_B y' As.length) (hrt : y'.2.2.2 = none) (hnm : y'.1.name = "<init>") (hin : Cond.instanceMethod y'.1 ∈ mm_ws) (hst : st = As.reverse ++ .ref a :: rest) (hw : (rest.map fun v => v.category).sum ≤ 8) (hln : (lg_sl (.ref a :: As)).length ≤ y'.2.2.1) (h1 : k + mc' ≤ mc) (h2 : n + ms' ≤ ms)
    (kk : mm_C y' d mc' ms' (.ref a :: As) sh M (fun r sh' M' => mm_W y (d + 1) mc ms (pc + 3) lv (r.toList ++ rest) sh' M' (k + mc') (n + ms') Q)) : mm_W y (d + 1) mc ms pc lv st sh M k n Q := by
  subst hst
  intro b aT D p l e s m args below meth c H locs ls X hP hz hS hl
  have hK := X.2.2.2.2.2.2.2.2.1
  have hts := X.2.2.2.2.1
  obtain ⟨w1, w2, hy, hpn, hml⟩ := hB
  have hst2 : ((As.reverse ++ .ref a :: rest).map (mm_v b)) = (As.map (mm_v b)).reverse ++ .ref (b + a) :: rest.map (mm_v b) := by
    rw [List.map_append, List.map_reverse]; rfl
  rw [hst2]
  refine mm_goon (va_runI (As := As.map (mm_v b)) (rest := rest.map (mm_v b)) (b := b + a) ⟨X.1, X.2.1, X.2.2.1, X.2.2.2.1, hts⟩ (mm_met l b aT D hpn hln kk) (cwI As.length hts (mm_good (fun w hw => ?_)) (by rw [mm_wsY, hrt]) rfl rfl (hts _ w1) (hts _ hlk) (hts _ hin) hnm hy ⟨Nat.le_refl _, by show 8 + (y'.2.2.1 + 11) + 60 * d ≤ 60 * (d + 1); omega⟩) ⟨mm_blind, fun U hU hW => ⟨rfl, by rw [hU]; exact hP, by rw [hU]; exact hz, mm_k_warm hW hK, mm_t_step hS hU hW X.2.2.2.2.2.2.2.2.2.2⟩⟩ rfl (by rw [List.length_map]) hl.1 rfl (lv_room (by rw [mm_cats]; exact hw)) hd ⟨h1, h2⟩) hS (fun r sh' M' H1 locs1 hq hP1 hz1 hS1 => ?_)
  · rcases List.mem_cons.mp hw with rfl | hw
    · exact w2
    · exact hw
  · cases r <;> exact hq b aT D p l e s m args below meth c H1 locs1 ls X hP1 hz1 hS1 hl
theorem mm_callIN {a : Nat} {host : String} (hd : decode y.2.1 pc = .ok (.invokespecial idx, 3)) (hlk : Cond.methodLinkNest y.1.cls idx y'.1 host ∈ mm_nest) (hB : mm_B y' As.length) (hrt : y'.2.2.2 = none) (hnm : y'.1.name = "<init>") (hin : Cond.instanceMethod y'.1 ∈ mm_ws) (hst : st = As.reverse ++ .ref a :: rest) (hw : (rest.map fun v => v.category).sum ≤ 8) (hln : (lg_sl (.ref a :: As)).length ≤ y'.2.2.1) (h1 : k + mc' ≤ mc) (h2 : n + ms' ≤ ms)
    (kk : mm_C y' d mc' ms' (.ref a :: As) sh M (fun r sh' M' => mm_W y (d + 1) mc ms (pc + 3) lv (r.toList ++ rest) sh' M' (k + mc') (n + ms') Q)) : mm_W y (d + 1) mc ms pc lv st sh M k n Q := by
  subst hst
  intro b aT D p l e s m args below meth c H locs ls X hP hz hS hl
  have hK := X.2.2.2.2.2.2.2.2.1
  have hts := X.2.2.2.2.1
  obtain ⟨w1, w2, hy, hpn, hml⟩ := hB
  have hst2 : ((As.reverse ++ .ref a :: rest).map (mm_v b)) = (As.map (mm_v b)).reverse ++ .ref (b + a) :: rest.map (mm_v b) := by
    rw [List.map_append, List.map_reverse]; rfl
  rw [hst2]
  refine mm_goon (va_runIN (As := As.map (mm_v b)) (rest := rest.map (mm_v b)) (b := b + a) ⟨X.1, X.2.1, X.2.2.1, X.2.2.2.1, hts⟩ (mm_met l b aT D hpn hln kk) ⟨va_cnB As.length hts (mm_good (fun w hw => ?_)) (by rw [mm_wsY, hrt]) rfl rfl (hK.2.1 _ hlk) (hts _ w1) hy ⟨Nat.le_refl _, by show 8 + (y'.2.2.1 + 11) + 60 * d ≤ 60 * (d + 1); omega⟩, hnm, hts _ hin⟩ ⟨mm_blind, fun U hU hW => ⟨rfl, by rw [hU]; exact hP, by rw [hU]; exact hz, mm_k_warm hW hK, mm_t_step hS hU hW X.2.2.2.2.2.2.2.2.2.2⟩⟩ rfl (by rw [List.length_map]) hl.1 rfl (lv_room (by rw [mm_cats]; exact hw)) hd ⟨h1, h2⟩) hS (fun r sh' M' H1 locs1 hq hP1 hz1 hS1 => ?_)
  · rcases List.mem_cons.mp hw with rfl | hw
    · exact w2
    · exact hw
  · cases r <;> exact hq b aT D p l e s m args below meth c H1 locs1 ls X hP1 hz1 hS1 hl
end MMK
