/-! the text constant's methods: the heap stays -/
def ms_Q (o : Option Value) : Array Value → State → Outcome → State → Prop := fun _ st oc t => oc = .returned o ∧ t.heap = st.heap
def ms_ok (y : mm_Y) (b aK aV : Nat) (p : Program) (s : State) (m : MethodId) (args : Array Value) (meth : Method) (c : Code) : Prop :=
  p.tables.exec = Jvm.exec ∧ c.code = y.2.1 ∧ c.maxLocals = y.2.2.1 ∧ s.vm.findClass y.1.cls = some m.cls ∧ (∀ w ∈ mm_ws, w.before args s = true) ∧ meth.sig.returnType = y.2.2.2 ∧ meth.locks = false ∧ mm_tt b aK aV s
def ms_W (y : mm_Y) (b aK aV d pc : Nat) (lv : List (Nat × Value)) (st : List Value) (o : Option Value) : Prop :=
  ∀ (p : Program) (l : Launch) (e : Env) (s : State) (m : MethodId) (args : Array Value) (below : List Frame) (meth : Method) (c : Code) (ls : Array Slot),
    ms_ok y b aK aV p s m args meth c → lv_has ls y.2.2.1 lv → W p l e (mm_R d 0 0) s m args below meth c s.heap [] 0 0 (MQ below (ms_Q o) args s 0 0 (fun _ => False)) (F0 m pc ls st)
section MSA
variable {y y' : mm_Y} {b aK aV d pc idx : Nat} {lv : List (Nat × Value)} {st rest As : List Value} {o o' : Option Value}
theorem ms_iconst {i : Int} {x : Int32} (hd : decode y.2.1 pc = .ok (.iconst i, 1)) (hv : Int32.ofInt i = x) (kk : ms_W y b aK aV d (pc + 1) lv (.int x :: st) o) : ms_W y b aK aV d pc lv (st) o :=
  fun p l e s m args below meth c ls X hl => lv_iconst X.1 X.2.1 hd hv (kk p l e s m args below meth c ls X hl)
theorem ms_sipush {i : Int} {x : Int32} (hd : decode y.2.1 pc = .ok (.sipush i, 3)) (hv : (Int16.ofInt i).toInt32 = x) (kk : ms_W y b aK aV d (pc + 3) lv (.int x :: st) o) : ms_W y b aK aV d pc lv (st) o :=
  fun p l e s m args below meth c ls X hl => lv_sipush X.1 X.2.1 hd hv (kk p l e s m args below meth c ls X hl)
theorem ms_iload_n {f : Fin 4} {i j : Nat} {x : Int32} (hd : decode y.2.1 pc = .ok (.iload_n f, 1)) (hi : (f : Nat) = i) (hv : lv[j]? = some (i, .int x)) (kk : ms_W y b aK aV d (pc + 1) lv (.int x :: st) o) : ms_W y b aK aV d pc lv (st) o :=
  fun p l e s m args below meth c ls X hl => lv_iload_n X.1 X.2.1 hd hi (lv_at hl j hv) (kk p l e s m args below meth c ls X hl)
theorem ms_aload_n {f : Fin 4} {i j : Nat} {x : Nat} (hd : decode y.2.1 pc = .ok (.aload_n f, 1)) (hi : (f : Nat) = i) (hv : lv[j]? = some (i, .ref x)) (kk : ms_W y b aK aV d (pc + 1) lv (.ref x :: st) o) : ms_W y b aK aV d pc lv (st) o :=
  fun p l e s m args below meth c ls X hl => lv_aload_n X.1 X.2.1 hd hi (lv_at hl j hv) (kk p l e s m args below meth c ls X hl)
theorem ms_iand {x z : Int32} (hd : decode y.2.1 pc = .ok (.iand, 1)) (kk : ms_W y b aK aV d (pc + 1) lv (.int (x &&& z) :: st) o) : ms_W y b aK aV d pc lv (.int z :: .int x :: st) o :=
  fun p l e s m args below meth c ls X hl => lv_iand X.1 X.2.1 hd (kk p l e s m args below meth c ls X hl)
theorem ms_ishr {x z : Int32} (hd : decode y.2.1 pc = .ok (.ishr, 1)) (kk : ms_W y b aK aV d (pc + 1) lv (.int (x >>> (z &&& 31)) :: st) o) : ms_W y b aK aV d pc lv (.int z :: .int x :: st) o :=
  fun p l e s m args below meth c ls X hl => lv_ishr X.1 X.2.1 hd (kk p l e s m args below meth c ls X hl)
theorem ms_i2c {x v : Int32} (hd : decode y.2.1 pc = .ok (.i2c, 1)) (hv : (x.toUInt32 % 65536).toInt32 = v) (kk : ms_W y b aK aV d (pc + 1) lv (.int v :: st) o) : ms_W y b aK aV d pc lv (.int x :: st) o :=
  fun p l e s m args below meth c ls X hl => lv_i2c X.1 X.2.1 hd hv (kk p l e s m args below meth c ls X hl)
theorem ms_pop {v : Value} (hd : decode y.2.1 pc = .ok (.pop, 1)) (hv : v.category = 1) (kk : ms_W y b aK aV d (pc + 1) lv (st) o) : ms_W y b aK aV d pc lv (v :: st) o :=
  fun p l e s m args below meth c ls X hl => lv_pop X.1 X.2.1 hd hv (kk p l e s m args below meth c ls X hl)
theorem ms_if_eq {x : Int32} {off : Int} {tgt : Nat} (hd : decode y.2.1 pc = .ok (.ifCond .eq off, 3)) (ht : (pc : Int) + off = (tgt : Int)) (kt : x = 0 → ms_W y b aK aV d tgt lv st o) (kf : ¬ x = 0 → ms_W y b aK aV d (pc + 3) lv st o) : ms_W y b aK aV d pc lv (.int x :: st) o :=
  fun p l e s m args below meth c ls X hl => lv_if_eq X.1 X.2.1 hd ht (fun h => kt h p l e s m args below meth c ls X hl) (fun h => kf h p l e s m args below meth c ls X hl)
theorem ms_if_ne {x : Int32} {off : Int} {tgt : Nat} (hd : decode y.2.1 pc = .ok (.ifCond .ne off, 3)) (ht : (pc : Int) + off = (tgt : Int)) (kt : ¬ x = 0 → ms_W y b aK aV d tgt lv st o) (kf : x = 0 → ms_W y b aK aV d (pc + 3) lv st o) : ms_W y b aK aV d pc lv (.int x :: st) o :=
  fun p l e s m args below meth c ls X hl => lv_if_ne X.1 X.2.1 hd ht (fun h => kt h p l e s m args below meth c ls X hl) (fun h => kf h p l e s m args below meth c ls X hl)
theorem ms_if_lt {x : Int32} {off : Int} {tgt : Nat} (hd : decode y.2.1 pc = .ok (.ifCond .lt off, 3)) (ht : (pc : Int) + off = (tgt : Int)) (kt : x < 0 → ms_W y b aK aV d tgt lv st o) (kf : ¬ x < 0 → ms_W y b aK aV d (pc + 3) lv st o) : ms_W y b aK aV d pc lv (.int x :: st) o :=
  fun p l e s m args below meth c ls X hl => lv_if_lt X.1 X.2.1 hd ht (fun h => kt h p l e s m args below meth c ls X hl) (fun h => kf h p l e s m args below meth c ls X hl)
theorem ms_icmp_lt {x z : Int32} {off : Int} {tgt : Nat} (hd : decode y.2.1 pc = .ok (.if_icmp .lt off, 3)) (ht : (pc : Int) + off = (tgt : Int)) (kt : x < z → ms_W y b aK aV d tgt lv st o) (kf : ¬ x < z → ms_W y b aK aV d (pc + 3) lv st o) : ms_W y b aK aV d pc lv (.int z :: .int x :: st) o :=
  fun p l e s m args below meth c ls X hl => lv_icmp_lt X.1 X.2.1 hd ht (fun h => kt h p l e s m args below meth c ls X hl) (fun h => kf h p l e s m args below meth c ls X hl)
theorem ms_goto {off : Int} {tgt : Nat} (hd : decode y.2.1 pc = .ok (.goto off, 3)) (ht : (pc : Int) + off = (tgt : Int)) (kk : ms_W y b aK aV d tgt lv st o) : ms_W y b aK aV d pc lv st o :=
  fun p l e s m args below meth c ls X hl => lv_goto X.1 X.2.1 hd ht (kk p l e s m args below meth c ls X hl)
theorem ms_compact (hd : decode y.2.1 pc = .ok (.getstatic idx, 3)) (hlk : Cond.fieldLink y.1.cls idx "java/lang/String" "COMPACT_STRINGS" "Z" ∈ mm_ws) (kk : ms_W y b aK aV d (pc + 3) lv (.int 1 :: st) o) : ms_W y b aK aV d pc lv st o :=
  fun p l e s m args below meth c ls X hl => va_gets X.1 X.2.1 X.2.2.2.2.2.2.2.2.2.1 va_S.rf X.2.2.2.1 (X.2.2.2.2.1 _ hlk) (fun _ h => h) hd (kk p l e s m args below meth c ls X hl)
theorem ms_form (hd : decode y.2.1 pc = .ok (.getstatic idx, 3)) (hlk : Cond.fieldLink y.1.cls idx "jdk/internal/util/Preconditions" "SIOOBE_FORMATTER" "Ljava/util/function/BiFunction;" ∈ mm_ws) (kk : ∀ r : Option Nat, ms_W y b aK aV d (pc + 3) lv (va_rf r :: st) o) : ms_W y b aK aV d pc lv st o := by
  intro p l e s m args below meth c ls X hl
  rcases X.2.2.2.2.2.2.2.2.2.2 with h | ⟨t, h⟩
  · exact va_gets X.1 X.2.1 h va_S.rf X.2.2.2.1 (X.2.2.2.2.1 _ hlk) (fun _ h => h) hd (kk none p l e s m args below meth c ls X hl)
  · exact va_gets X.1 X.2.1 h va_S.rf X.2.2.2.1 (X.2.2.2.2.1 _ hlk) (fun _ h => h) hd (kk (some t) p l e s m args below meth c ls X hl)
theorem ms_coder (hd : decode y.2.1 pc = .ok (.getfield idx, 3)) (hlk : Cond.fieldLink y.1.cls idx "java/lang/String" "coder" "B" ∈ mm_ws) (kk : ms_W y b aK aV d (pc + 3) lv (.int 0 :: st) o) : ms_W y b aK aV d pc lv (.ref aK :: st) o :=
  fun p l e s m args below meth c ls X hl => vk_getf X.1 X.2.1 (X.2.2.2.2.2.2.2.2.1.1 0 (by decide)).2.1 va_S.rf X.2.2.2.1 (X.2.2.2.2.1 _ hlk) (fun _ h => h) hd (kk p l e s m args below meth c ls X hl)
theorem ms_value (hd : decode y.2.1 pc = .ok (.getfield idx, 3)) (hlk : Cond.fieldLink y.1.cls idx "java/lang/String" "value" "[B" ∈ mm_ws) (kk : ms_W y b aK aV d (pc + 3) lv (.ref aV :: st) o) : ms_W y b aK aV d pc lv (.ref aK :: st) o :=
  fun p l e s m args below meth c ls X hl => vk_getf X.1 X.2.1 (X.2.2.2.2.2.2.2.2.1.1 0 (by decide)).2.2.1 va_S.rf X.2.2.2.1 (X.2.2.2.2.1 _ hlk) (fun _ h => h) hd (kk p l e s m args below meth c ls X hl)
theorem ms_len (hd : decode y.2.1 pc = .ok (.arraylength, 1)) (kk : ms_W y b aK aV d (pc + 1) lv (.int 165 :: st) o) : ms_W y b aK aV d pc lv (.ref aV :: st) o :=
  fun p l e s m args below meth c ls X hl => va_tlen X.1 X.2.1 (X.2.2.2.2.2.2.2.2.1.1 0 (by decide)).2.2.2 va_S.rf rfl hd (kk p l e s m args below meth c ls X hl)
theorem ms_bald {i : Int32} (hi : vp_in i 165) (hd : decode y.2.1 pc = .ok (.baload, 1)) (kk : ms_W y b aK aV d (pc + 1) lv (.int (mm_bytes.getD i.toNatClampNeg 0) :: st) o) : ms_W y b aK aV d pc lv (.int i :: .ref aV :: st) o :=
  fun p l e s m args below meth c ls X hl => va_tb X.1 X.2.1 (X.2.2.2.2.2.2.2.2.1.1 0 (by decide)).2.2.2 va_S.rf hi rfl hd (kk p l e s m args below meth c ls X hl)
theorem ms_ret {x : Int32} {ty : FieldType} (hd : decode y.2.1 pc = .ok (.ireturn, 1)) (hr : y.2.2.2 = some ty) (hn : narrow ty (.int x) = .int x) : ms_W y b aK aV d pc lv [.int x] (some (.int x)) :=
  fun p l e s m args below meth c ls X hl => W.zret X.1 X.2.1 (X.2.2.2.2.2.1.trans hr) hn (fun t ht hW => ⟨rfl, ht⟩) (fun q h => by cases h) hd X.2.2.2.2.2.2.1
theorem ms_vret (hd : decode y.2.1 pc = .ok (.return_, 1)) (hr : y.2.2.2 = none) : ms_W y b aK aV d pc lv [] none :=
  fun p l e s m args below meth c ls X hl => W.vret X.1 X.2.1 (X.2.2.2.2.2.1.trans hr) (fun t ht hW => ⟨rfl, ht⟩) (fun q h => by cases h) hd X.2.2.2.2.2.2.1
theorem ms_met (l : Launch) {vs : List Value} (hy : plainName y.1.cls = true) (hn : (lg_sl vs).length ≤ y.2.2.1) (h : ms_W y b aK aV d 0 (lv_args 0 vs) [] o) : Met l y.1 (mm_wsY y) (mm_R d 0 0) (va_Pc vs (mm_tt b aK aV)) (ms_Q o) 0 0 (fun _ => False) := by
  refine Met.ofW (cc := y.2.1) (maxL := y.2.2.1) (ret := y.2.2.2) hy rfl ?_
  intro p e s m args below meth c s₁ B hml hv
  obtain ⟨rfl, hX⟩ := hv
  have hts := atoms_spec (ws := mm_wsY y) B.pre
  have hown : s.vm.findClass y.1.cls = some m.cls := findClass_of_methodNamed B.named
  have hl := lv_entry vs (n := y.2.2.1) hn
  rw [lg_entry_eq]
  exact h p l e s m _ below meth c _ ⟨B.exec, B.bytes, hml, hown, fun w hw => hts w (List.mem_cons_of_mem _ hw), B.returns, B.notSynchronized, hX⟩ hl
end MSA
theorem ms_blind {b aK aV : Nat} {vs : List Value} : FrameBlind (va_Pc vs (mm_tt b aK aV)) := fun _ _ _ _ q => ⟨q.1, mm_tt_call q.2⟩
section MSG
variable {p : Program} {l : Launch} {e : Env} {R : Room} {s : State} {m : MethodId} {args : Array Value} {below : List Frame} {meth : Method} {c : Code} {H : Heap} {locs : List Loc} {cells slots : Nat} {Z : State → Prop}
theorem ms_goon {pc : Nat} {o : Option Value} {ls : Array Slot} {rest st0 : List Value} {a : Array Value} (hr : va_Run p l e R s m args below meth c H locs cells slots 0 0 (F0 m pc ls st0) rest (ms_Q o a) (fun _ => False)) (kk : W p l e R s m args below meth c H locs cells slots Z (F0 m (pc + 3) ls (o.toList ++ rest))) : W p l e R s m args below meth c H locs cells slots Z (F0 m pc ls st0) := by
  intro T hT X
  obtain ⟨v, st₀, t, T', L, h0, X', hL, e1, e2, ⟨hv, hh⟩, st⟩ := hr T hT X
  cases hv
  have hLn : L = [] := by
    cases L with
    | nil => rfl
    | cons a l => exact (hL a List.mem_cons_self).elim
  subst hLn
  rw [List.append_nil] at X'
  obtain ⟨t2, a1, b1⟩ := kk T' (by rw [e1, hh, h0]) X'
  exact ⟨t2, st t2 a1, b1⟩
/-- a call of one of the text's methods, from any frame -/
theorem ms_runV {pc d b aK aV idx nL : Nat} {own : String} {cc : ByteArray} {y' : mm_Y} {o : Option Value} {ls : Array Slot} {As rest : List Value} (S : CallFix p m c cc nL s args mm_ws own) (hR : d + 1 ≤ R.frames ∧ 60 * (d + 1) ≤ R.locals ∧ cells ≤ R.cells ∧ slots ≤ R.slots) (hlk : Cond.methodLink own idx y'.1 ∈ mm_ws) (hB : mm_B y' As.length) (hin : Cond.instanceMethod y'.1 ∈ mm_ws) (hse : Cond.selects y'.1.cls y'.1 y'.1 ∈ mm_ws) (hcl : y'.1.cls = "java/lang/String") (htt : mm_tt b aK aV s) (hS : va_S (fun q => b ≤ q) s.heap H locs) (hsz : ls.size = nL) (hw : (rest.map fun v => v.category).sum ≤ 8) (hln : (lg_sl (.ref aK :: As)).length ≤ y'.2.2.1) (hd : decode cc pc = .ok (.invokevirtual idx, 3)) (h : ms_W y' b aK aV d 0 (lv_args 0 (.ref aK :: As)) [] o)
    (kk : W p l e R s m args below meth c H locs cells slots Z (F0 m (pc + 3) ls (o.toList ++ rest))) : W p l e R s m args below meth c H locs cells slots Z (F0 m pc ls (As.reverse ++ .ref aK :: rest)) := by
  obtain ⟨w1, w2, hy, hpn, hml⟩ := hB
  have hts := S.2.2.2.2
  refine ms_goon (va_runV (As := As) (rest := rest) (C := y'.1.cls) (b := aK) S (ms_met l hpn hln h) (cwV As.length hts (mm_good (fun w hw => ?_)) rfl rfl rfl ⟨rfl, hy⟩ ⟨hR.1, by show 8 + (y'.2.2.1 + 11) + 60 * d ≤ R.locals; omega⟩) ⟨ms_blind, by
      have := vk_recv htt.2.1 (i := 0) (by decide) hS
      rw [hcl]
      exact this, fun U hU hW => ⟨rfl, mm_tt_step hS hU hW htt⟩⟩ rfl rfl hsz rfl (lv_room hw) hd ⟨hR.2.2.1, hR.2.2.2⟩) kk
  simp only [wsV, List.mem_append, List.mem_cons, List.not_mem_nil, or_false] at hw
  rcases hw with (rfl | rfl | rfl | rfl) | (rfl | hw)
  · exact hlk
  · exact hin
  · exact hse
  · exact w1
  · exact w2
  · exact hw
theorem ms_runS {pc d b aK aV idx nL : Nat} {own : String} {cc : ByteArray} {y' : mm_Y} {o : Option Value} {ls : Array Slot} {As rest : List Value} (S : CallFix p m c cc nL s args mm_ws own) (hR : d + 1 ≤ R.frames ∧ 60 * (d + 1) ≤ R.locals ∧ cells ≤ R.cells ∧ slots ≤ R.slots) (hlk : Cond.methodLink own idx y'.1 ∈ mm_ws) (hB : mm_B y' As.length) (hss : Cond.static y'.1 ∈ mm_ws) (htt : mm_tt b aK aV s) (hS : va_S (fun q => b ≤ q) s.heap H locs) (hsz : ls.size = nL) (hw : (rest.map fun v => v.category).sum ≤ 8) (hln : (lg_sl As).length ≤ y'.2.2.1) (hd : decode cc pc = .ok (.invokestatic idx, 3)) (h : ms_W y' b aK aV d 0 (lv_args 0 As) [] o)
    (kk : W p l e R s m args below meth c H locs cells slots Z (F0 m (pc + 3) ls (o.toList ++ rest))) : W p l e R s m args below meth c H locs cells slots Z (F0 m pc ls (As.reverse ++ rest)) := by
  obtain ⟨w1, w2, hy, hpn, hml⟩ := hB
  have hts := S.2.2.2.2
  refine ms_goon (va_runS (As := As) (rest := rest) S (ms_met l hpn hln h) (va_cwS As.length hts (mm_good (fun w hw => ?_)) rfl rfl rfl hy ⟨hR.1, by show 8 + (y'.2.2.1 + 11) + 60 * d ≤ R.locals; omega⟩) ⟨ms_blind, fun U hU hW => ⟨rfl, mm_tt_step hS hU hW htt⟩⟩ rfl rfl hsz rfl (lv_room hw) hd ⟨hR.2.2.1, hR.2.2.2⟩) kk
  simp only [va_wsS, List.mem_append, List.mem_cons, List.not_mem_nil, or_false] at hw
  rcases hw with (rfl | rfl | rfl) | (rfl | hw)
  · exact hlk
  · exact hss
  · exact w1
  · exact w2
  · exact hw
end MSG
section MSC
variable {y y' : mm_Y} {b aK aV d pc idx : Nat} {lv : List (Nat × Value)} {st rest As : List Value} {o o' : Option Value}
theorem ms_callV (hd : decode y.2.1 pc = .ok (.invokevirtual idx, 3)) (hlk : Cond.methodLink y.1.cls idx y'.1 ∈ mm_ws) (hB : mm_B y' 0) (hin : Cond.instanceMethod y'.1 ∈ mm_ws) (hse : Cond.selects y'.1.cls y'.1 y'.1 ∈ mm_ws) (hcl : y'.1.cls = "java/lang/String") (hw : (rest.map fun v => v.category).sum ≤ 8) (hln : 1 ≤ y'.2.2.1) (h : ms_W y' b aK aV d 0 [(0, .ref aK)] [] o') (kk : ms_W y b aK aV (d + 1) (pc + 3) lv (o'.toList ++ rest) o) : ms_W y b aK aV (d + 1) pc lv (.ref aK :: rest) o :=
  fun p l e s m args below meth c ls X hl => ms_runV (As := []) ⟨X.1, X.2.1, X.2.2.1, X.2.2.2.1, X.2.2.2.2.1⟩ ⟨Nat.le_refl _, Nat.le_refl _, Nat.le_refl _, Nat.le_refl _⟩ hlk hB hin hse hcl X.2.2.2.2.2.2.2 va_S.rf hl.1 hw hln hd h (kk p l e s m args below meth c ls X hl)
theorem ms_callS (As : List Value) (hd : decode y.2.1 pc = .ok (.invokestatic idx, 3)) (hlk : Cond.methodLink y.1.cls idx y'.1 ∈ mm_ws) (hB : mm_B y' As.length) (hss : Cond.static y'.1 ∈ mm_ws) (hst : st = As.reverse ++ rest) (hw : (rest.map fun v => v.category).sum ≤ 8) (hln : (lg_sl As).length ≤ y'.2.2.1) (h : ms_W y' b aK aV d 0 (lv_args 0 As) [] o') (kk : ms_W y b aK aV (d + 1) (pc + 3) lv (o'.toList ++ rest) o) : ms_W y b aK aV (d + 1) pc lv st o := by
  subst hst
  exact fun p l e s m args below meth c ls X hl => ms_runS ⟨X.1, X.2.1, X.2.2.1, X.2.2.2.1, X.2.2.2.2.1⟩ ⟨Nat.le_refl _, Nat.le_refl _, Nat.le_refl _, Nat.le_refl _⟩ hlk hB hss X.2.2.2.2.2.2.2 va_S.rf hl.1 hw hln hd h (kk p l e s m args below meth c ls X hl)
end MSC
theorem fJ0_38 : Cond.fieldLink RJ0 38 "java/lang/String" "COMPACT_STRINGS" "Z" ∈ mm_ws := mm_mem (List.mem_append_right _ (List.mem_append_right _ (List.mem_append_right _ (List.mem_append_left _ (List.mem_of_getElem? (l := tables_1_3) (i := 101) (by decide +kernel)))))) rfl
theorem fJ0_1053 : Cond.fieldLink RJ0 1053 "jdk/internal/util/Preconditions" "SIOOBE_FORMATTER" "Ljava/util/function/BiFunction;" ∈ mm_ws := mm_mem (List.mem_append_right _ (List.mem_append_right _ (List.mem_append_right _ (List.mem_append_left _ (List.mem_of_getElem? (l := tables_1_3) (i := 117) (by decide +kernel)))))) rfl
theorem fJ0_9 : Cond.fieldLink RJ0 9 "java/lang/String" "value" "[B" ∈ mm_ws := mm_mem (List.mem_append_right _ (List.mem_append_right _ (List.mem_append_right _ (List.mem_append_right _ (List.mem_append_right _ (List.mem_append_right _ (List.mem_append_right _ (List.mem_append_right _ (List.mem_append_right _ (List.mem_of_getElem? (l := tables_1_9) (i := 201) (by decide +kernel))))))))))) rfl
theorem fJ0_15 : Cond.fieldLink RJ0 15 "java/lang/String" "coder" "B" ∈ mm_ws := mm_mem (List.mem_append_right _ (List.mem_append_right _ (List.mem_append_right _ (List.mem_append_right _ (List.mem_append_right _ (List.mem_append_right _ (List.mem_append_right _ (List.mem_append_right _ (List.mem_append_right _ (List.mem_of_getElem? (l := tables_1_9) (i := 202) (by decide +kernel))))))))))) rfl
theorem kS_335 : Cond.methodLink RJ0 335 mJ0_coder_7d493.1 ∈ mm_ws := mm_mem (List.mem_append_right _ (List.mem_append_right _ (List.mem_append_right _ (List.mem_append_left _ (List.mem_of_getElem? (l := tables_1_3) (i := 97) (by decide +kernel)))))) rfl
theorem kS_492 : Cond.methodLink RJ0 492 mJ0_isLatin1_aae02.1 ∈ mm_ws := mm_mem (List.mem_append_right _ (List.mem_append_right _ (List.mem_append_right _ (List.mem_append_left _ (List.mem_of_getElem? (l := tables_1_3) (i := 107) (by decide +kernel)))))) rfl
theorem kS_length : Cond.methodLink RX6 139 mJ0_length_8abf5.1 ∈ mm_ws := mm_mem (List.mem_append_right _ (List.mem_append_right _ (List.mem_append_right _ (List.mem_append_left _ (List.mem_of_getElem? (l := tables_1_3) (i := 93) (by decide +kernel)))))) rfl
theorem kS_charAt : Cond.methodLink RX6 143 mJ0_charAt_5068e.1 ∈ mm_ws := mm_mem (List.mem_append_right _ (List.mem_append_right _ (List.mem_append_right _ (List.mem_append_left _ (List.mem_of_getElem? (l := tables_1_3) (i := 103) (by decide +kernel)))))) rfl
theorem ms_coderM {b aK aV d : Nat} : ms_W mJ0_coder_7d493 b aK aV d 0 [(0, .ref aK)] [] (some (.int 0)) := by
  refine ms_compact (pc := 0) dJ0_coder_7d493_0 fJ0_38 ?_
  refine ms_if_eq (pc := 3) (tgt := 13) dJ0_coder_7d493_3 (by decide) (fun h => absurd h (by decide)) (fun _ => ?_)
  refine ms_aload_n (pc := 6) (j := 0) dJ0_coder_7d493_6 rfl rfl ?_
  refine ms_coder (pc := 7) dJ0_coder_7d493_7 fJ0_15 ?_
  refine ms_goto (pc := 10) (tgt := 14) dJ0_coder_7d493_10 (by decide) ?_
  exact ms_ret (pc := 14) dJ0_coder_7d493_14 rfl rfl
theorem ms_lengthM {b aK aV d : Nat} : ms_W mJ0_length_8abf5 b aK aV (d + 1) 0 [(0, .ref aK)] [] (some (.int 165)) := by
  refine ms_aload_n (pc := 0) (j := 0) dJ0_length_8abf5_0 rfl rfl ?_
  refine ms_value (pc := 1) dJ0_length_8abf5_1 fJ0_9 ?_
  refine ms_len (pc := 4) dJ0_length_8abf5_4 ?_
  refine ms_aload_n (pc := 5) (j := 0) dJ0_length_8abf5_5 rfl rfl ?_
  refine ms_callV (pc := 6) dJ0_length_8abf5_6 kS_335 bJ0_coder_7d493 iJ0_coder_7d493 sJ0_coder_7d493 rfl (Nat.le_of_ble_eq_true rfl) (by decide) ms_coderM ?_
  refine ms_ishr (pc := 9) (x := 165) (z := 0) dJ0_length_8abf5_9 ?_
  exact ms_ret (pc := 10) dJ0_length_8abf5_10 rfl rfl
theorem ms_latin {b aK aV d : Nat} : ms_W mJ0_isLatin1_aae02 b aK aV d 0 [(0, .ref aK)] [] (some (.int 1)) := by
  refine ms_compact (pc := 0) dJ0_isLatin1_aae02_0 fJ0_38 ?_
  refine ms_if_eq (pc := 3) (tgt := 17) dJ0_isLatin1_aae02_3 (by decide) (fun h => absurd h (by decide)) (fun _ => ?_)
  refine ms_aload_n (pc := 6) (j := 0) dJ0_isLatin1_aae02_6 rfl rfl ?_
  refine ms_coder (pc := 7) dJ0_isLatin1_aae02_7 fJ0_15 ?_
  refine ms_if_ne (pc := 10) (tgt := 17) dJ0_isLatin1_aae02_10 (by decide) (fun h => absurd rfl h) (fun _ => ?_)
  refine ms_iconst (pc := 13) (x := 1) dJ0_isLatin1_aae02_13 rfl ?_
  refine ms_goto (pc := 14) (tgt := 18) dJ0_isLatin1_aae02_14 (by decide) ?_
  exact ms_ret (pc := 18) dJ0_isLatin1_aae02_18 rfl rfl
theorem ms_pre {b aK aV d : Nat} {i z : Int32} {r : Option Nat} (h0 : ¬ i < 0) (h1 : i < z) : ms_W mJ3_checkIndex_8e157 b aK aV d 0 [(0, .int i), (1, .int z), (2, va_rf r)] [] (some (.int i)) := by
  refine ms_iload_n (pc := 0) (j := 0) dJ3_checkIndex_8e157_0 rfl rfl ?_
  refine ms_if_lt (pc := 1) (tgt := 9) dJ3_checkIndex_8e157_1 (by decide) (fun h => absurd h h0) (fun _ => ?_)
  refine ms_iload_n (pc := 4) (j := 0) dJ3_checkIndex_8e157_4 rfl rfl ?_
  refine ms_iload_n (pc := 5) (j := 1) dJ3_checkIndex_8e157_5 rfl rfl ?_
  refine ms_icmp_lt (pc := 6) (tgt := 16) dJ3_checkIndex_8e157_6 (by decide) (fun _ => ?_) (fun h => absurd h1 h)
  refine ms_iload_n (pc := 16) (j := 0) dJ3_checkIndex_8e157_16 rfl rfl ?_
  exact ms_ret (pc := 17) dJ3_checkIndex_8e157_17 rfl rfl
theorem ms_check {b aK aV d : Nat} {i z : Int32} (h0 : ¬ i < 0) (h1 : i < z) : ms_W mJ0_checkIndex_df160 b aK aV (d + 1) 0 [(0, .int i), (1, .int z)] [] none := by
  refine ms_iload_n (pc := 0) (j := 0) dJ0_checkIndex_df160_0 rfl rfl ?_
  refine ms_iload_n (pc := 1) (j := 1) dJ0_checkIndex_df160_1 rfl rfl ?_
  refine ms_form (pc := 2) dJ0_checkIndex_df160_2 fJ0_1053 (fun r => ?_)
  refine ms_callS (pc := 5) [.int i, .int z, va_rf r] dJ0_checkIndex_df160_5 kJ0_1059.1 kJ0_1059.2.1 kJ0_1059.2.2 rfl (Nat.le_of_ble_eq_true rfl) (by cases r <;> exact Nat.le_of_ble_eq_true rfl) (o' := some (.int i)) (ms_pre h0 h1) ?_
  refine ms_pop (pc := 8) dJ0_checkIndex_df160_8 rfl ?_
  exact ms_vret (pc := 9) dJ0_checkIndex_df160_9 rfl
def mm_ch (i : Int32) : Int32 := mm_bytes.getD i.toNatClampNeg 0
theorem mm_ch_ok : ∀ j, j < 165 → ((mm_bytes.getD j 0 &&& 255).toUInt32 % 65536).toInt32 = mm_bytes.getD j 0 ∧ narrow .char (.int (mm_bytes.getD j 0)) = .int (mm_bytes.getD j 0) := by decide +kernel
theorem ms_lat {b aK aV d : Nat} {i : Int32} (hi : vp_in i 165) : ms_W mJ1_charAt_3b067 b aK aV (d + 2) 0 [(0, .ref aV), (1, .int i)] [] (some (.int (mm_ch i))) := by
  obtain ⟨j, hj, rfl⟩ := vp_in_of hi (by decide)
  have hc := mm_ch_ok j hj
  refine ms_iload_n (pc := 0) (j := 1) dJ1_charAt_3b067_0 rfl rfl ?_
  refine ms_aload_n (pc := 1) (j := 0) dJ1_charAt_3b067_1 rfl rfl ?_
  refine ms_len (pc := 2) dJ1_charAt_3b067_2 ?_
  refine ms_callS (pc := 3) [.int (nI j), .int 165] dJ1_charAt_3b067_3 kJ1_9.1 kJ1_9.2.1 kJ1_9.2.2 rfl (Nat.le_of_ble_eq_true rfl) (Nat.le_of_ble_eq_true rfl) (o' := none) (ms_check (nI_pos (by omega)) (show nI j < nI 165 from nI_lt hj (by decide))) ?_
  refine ms_aload_n (pc := 6) (j := 0) dJ1_charAt_3b067_6 rfl rfl ?_
  refine ms_iload_n (pc := 7) (j := 1) dJ1_charAt_3b067_7 rfl rfl ?_
  refine ms_bald (pc := 8) hi dJ1_charAt_3b067_8 ?_
  refine ms_sipush (pc := 9) (x := 255) dJ1_charAt_3b067_9 rfl ?_
  refine ms_iand (pc := 12) dJ1_charAt_3b067_12 ?_
  refine ms_i2c (pc := 13) (v := mm_ch (nI j)) dJ1_charAt_3b067_13 (by unfold mm_ch; rw [nI_clamp (by omega)]; exact hc.1) ?_
  exact ms_ret (pc := 14) dJ1_charAt_3b067_14 rfl (by unfold mm_ch; rw [nI_clamp (by omega)]; exact hc.2)
theorem ms_charAtM {b aK aV d : Nat} {i : Int32} (hi : vp_in i 165) : ms_W mJ0_charAt_5068e b aK aV (d + 3) 0 [(0, .ref aK), (1, .int i)] [] (some (.int (mm_ch i))) := by
  obtain ⟨j, hj, rfl⟩ := vp_in_of hi (by decide)
  have hc := mm_ch_ok j hj
  refine ms_aload_n (pc := 0) (j := 0) dJ0_charAt_5068e_0 rfl rfl ?_
  refine ms_callV (pc := 1) dJ0_charAt_5068e_1 kS_492 bJ0_isLatin1_aae02 iJ0_isLatin1_aae02 sJ0_isLatin1_aae02 rfl (Nat.le_of_ble_eq_true rfl) (by decide) ms_latin ?_
  refine ms_if_eq (pc := 4) (tgt := 16) dJ0_charAt_5068e_4 (by decide) (fun h => absurd h (by decide)) (fun _ => ?_)
  refine ms_aload_n (pc := 7) (j := 0) dJ0_charAt_5068e_7 rfl rfl ?_
  refine ms_value (pc := 8) dJ0_charAt_5068e_8 fJ0_9 ?_
  refine ms_iload_n (pc := 11) (j := 1) dJ0_charAt_5068e_11 rfl rfl ?_
  refine ms_callS (pc := 12) [.ref aV, .int (nI j)] dJ0_charAt_5068e_12 kJ0_495.1 kJ0_495.2.1 kJ0_495.2.2 rfl (Nat.le_of_ble_eq_true rfl) (Nat.le_of_ble_eq_true rfl) (o' := some (.int (mm_ch (nI j)))) (ms_lat hi) ?_
  exact ms_ret (pc := 15) dJ0_charAt_5068e_15 rfl (by unfold mm_ch; rw [nI_clamp (by omega)]; exact hc.2)
/-! in a frame over the memory: the constant's length, and its char at a local -/
section MST
variable {d mc ms pc idx : Nat} {y : mm_Y} {lv : List (Nat × Value)} {st : List Value} {sh : mm_S} {M : mm_M} {k n : Nat} {Q : Option Value → mm_S → mm_M → Prop}
theorem mm_strlen (hcl : y.1.cls = "EnemyBread$Reader") (hd1 : decode y.2.1 pc = .ok (.ldc 137, 2)) (hd2 : decode y.2.1 (pc + 2) = .ok (.invokevirtual idx, 3)) (hlk : Cond.methodLink y.1.cls idx mJ0_length_8abf5.1 ∈ mm_ws) (hw : (st.map fun v => v.category).sum ≤ 8) (h1 : k ≤ mc) (h2 : n ≤ ms) (kk : mm_W y (d + 2) mc ms (pc + 5) lv (.int 165 :: st) sh M k n Q) : mm_W y (d + 2) mc ms pc lv st sh M k n Q := by
  intro b aT D p l e s m args below meth c H locs ls X hP hz hS hl
  obtain ⟨aK, aV, htt⟩ := X.2.2.2.2.2.2.2.2.2.2
  refine va_ldcS X.1 X.2.1 (by rw [← hcl]; exact X.2.2.2.1) htt.1 hd1 ?_
  exact ms_runV (d := d + 1) (As := []) (rest := st.map (mm_v b)) ⟨X.1, X.2.1, X.2.2.1, X.2.2.2.1, X.2.2.2.2.1⟩ ⟨Nat.le_refl _, Nat.le_refl _, h1, h2⟩ hlk bJ0_length_8abf5 iJ0_length_8abf5 sJ0_length_8abf5 rfl htt hS hl.1 (by rw [mm_cats]; exact hw) (Nat.le_of_ble_eq_true rfl) hd2 ms_lengthM (kk b aT D p l e s m args below meth c H locs ls X hP hz hS hl)
theorem mm_strchar {f : Fin 4} {i j : Nat} {x : Int32} (hcl : y.1.cls = "EnemyBread$Reader") (hd1 : decode y.2.1 pc = .ok (.ldc 137, 2)) (hd0 : decode y.2.1 (pc + 2) = .ok (.iload_n f, 1)) (hi : (f : Nat) = i) (hv : lv[j]? = some (i, .int x)) (hd2 : decode y.2.1 (pc + 3) = .ok (.invokevirtual idx, 3)) (hlk : Cond.methodLink y.1.cls idx mJ0_charAt_5068e.1 ∈ mm_ws) (hx : vp_in x 165) (hw : (st.map fun v => v.category).sum ≤ 8) (h1 : k ≤ mc) (h2 : n ≤ ms) (kk : mm_W y (d + 4) mc ms (pc + 6) lv (.int (mm_ch x) :: st) sh M k n Q) : mm_W y (d + 4) mc ms pc lv st sh M k n Q := by
  intro b aT D p l e s m args below meth c H locs ls X hP hz hS hl
  obtain ⟨aK, aV, htt⟩ := X.2.2.2.2.2.2.2.2.2.2
  refine va_ldcS X.1 X.2.1 (by rw [← hcl]; exact X.2.2.2.1) htt.1 hd1 ?_
  refine lv_iload_n X.1 X.2.1 hd0 hi (mm_hl hl hv) ?_
  exact ms_runV (d := d + 3) (As := [.int x]) (rest := st.map (mm_v b)) ⟨X.1, X.2.1, X.2.2.1, X.2.2.2.1, X.2.2.2.2.1⟩ ⟨Nat.le_refl _, Nat.le_refl _, h1, h2⟩ hlk bJ0_charAt_5068e iJ0_charAt_5068e sJ0_charAt_5068e rfl htt hS hl.1 (by rw [mm_cats]; exact hw) (Nat.le_of_ble_eq_true rfl) hd2 (ms_charAtM hx) (kk b aT D p l e s m args below meth c H locs ls X hP hz hS hl)
end MST
