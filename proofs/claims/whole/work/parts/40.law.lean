/-! THE CLAIM OUT OF ONE WALK OF THE LAW'S BODY. Your part is whole_start (and what it stands on); all else here is the same for every law, but numbers. -/
def R_law : String := "EnemyBreadLaw"
def lw_P (b : Addr) (xs : List Int32) (args : Array Value) (s : State) : Prop := args = #[.ref b] ∧ s.IntsAt b xs ∧ xs.length ≤ 3072 ∧ (Jvm.Cond.and given_1 narrow_1).before args s = true
def lw_Q (_ : Array Value) (s : State) (o : Outcome) (t : State) : Prop := o = .returned (some (.int 1)) ∧ Framed s o t [] 600000 7302250
def lw_Z (below : List Frame) (a : Array Value) (s : State) : State → Prop := fun t => ∃ o, t.status = .running ∧ Ended t below o ∧ lw_Q a s o t
/-- the law's own end, with 1 on the stack, nothing written that was there before, its room as the claim has it -/
theorem lw_ret {p : Program} {l : Launch} {e : Env} {s : State} {m : MethodId} {below : List Frame} {meth : Method} {c : Code} {b : Nat} (hx : p.tables.exec = Jvm.exec) (hb : c.code = code) (hr : meth.sig.returnType = ret) (hlocks : meth.locks = false) {pc : Nat} {H : Heap} {ls : Array Slot} (hdg : decode code pc = .ok (.ireturn, 1)) : W p l e room_1 s m #[Value.ref b] below meth c H [] 600000 7302250 (lw_Z below #[Value.ref b] s) (F0 m pc ls [.int 1]) := by
  intro T hT X
  obtain ⟨fs, hret, hrun, hended, hW, hframe⟩ := X.leave (v := some (.int 1)) (hlocks := hlocks) (fun h => by rw [hr] at h; cases h)
  have hmeth' : T.vm.method? m = some meth := X.method'
  refine ⟨T.setFrames fs, ?_, .returned (some (.int 1)), hrun, hended, rfl, ⟨_, rfl⟩, hW, hframe⟩
  jvm_step X.here [X.here.top, hx, hb, hdg, hmeth', hr, ret, narrow_b1]
  (try refine ⟨rfl, ?_⟩); (try refine ⟨rfl, ?_⟩)
  first | (intro acts; rw [hret _ acts rfl rfl rfl]) | rw [hret _ _ rfl rfl rfl]
  exact Steps.refl _
/-- what holds at the law's entry: the machine, the code, the tables' words (any of lw_tbl by 'hts w (by decide +kernel)'), the script of L ints xs at the cell b, what the Statement gives of the start (any of its parts by flat_of_before) -/
def lw_At (p : Program) (s : State) (m : MethodId) (meth : Method) (c : Code) (b L : Nat) (xs : Nat → Int32) : Prop :=
  p.tables.exec = Jvm.exec ∧ c.code = code ∧ meth.sig.returnType = ret ∧ c.maxLocals = 4 ∧ s.vm.findClass R_law = some m.cls ∧ (∀ w ∈ lw_tbl, w.before #[Value.ref b] s = true) ∧ va_X b L xs s s.heap ∧ b < s.heap.size ∧ meth.locks = false ∧ (Jvm.Cond.and given_1 narrow_1).before #[Value.ref b] s = true

def ml_ok (p : Program) (s : State) (m : MethodId) (meth : Method) (c : Code) (b L : Nat) (xs : Nat → Int32) (aT : Nat → ClassId) (D : va_G) : Prop := lw_At p s m meth c b L xs ∧ mm_k aT D s ∧ mm_t s.heap.size s
def ml_W (p : Program) (l : Launch) (e : Env) (s : State) (m : MethodId) (below : List Frame) (meth : Method) (c : Code) (b : Nat) (aT : Nat → ClassId) (D : va_G) (pc : Nat) (lv : List (Nat × Value)) (st : List Value) (sh : mm_S) (M : mm_M) (k n : Nat) : Prop :=
  ∀ (H : Heap) (locs : List Loc) (ls : Array Slot), va_P D vwCl (mm_w s.heap.size aT sh M) H → H.size = s.heap.size + sh.length → va_S (fun q => s.heap.size ≤ q) s.heap H locs → lv_has ls 4 lv → W p l e room_1 s m #[Value.ref b] below meth c H locs k n (lw_Z below #[Value.ref b] s) (F0 m pc ls st)
section ML
variable {p : Program} {l : Launch} {e : Env} {s : State} {m : MethodId} {below : List Frame} {meth : Method} {c : Code} {b L : Nat} {xs : Nat → Int32} {aT : Nat → ClassId} {D : va_G} {pc : Nat} {lv lv' : List (Nat × Value)} {st : List Value} {sh : mm_S} {M : mm_M} {k n : Nat}
theorem ml_iconst (C : ml_ok p s m meth c b L xs aT D) {i : Int} {x : Int32} (hd : decode code pc = .ok (.iconst i, 1)) (hv : Int32.ofInt i = x) (kk : ml_W p l e s m below meth c b aT D (pc + 1) lv (.int x :: st) sh M k n) : ml_W p l e s m below meth c b aT D pc lv (st) sh M k n :=
  fun H locs ls hP hz hS hl => lv_iconst C.1.1 C.1.2.1 hd hv (kk H locs ls hP hz hS hl)
theorem ml_bipush (C : ml_ok p s m meth c b L xs aT D) {i : Int} {x : Int32} (hd : decode code pc = .ok (.bipush i, 2)) (hv : (Int8.ofInt i).toInt32 = x) (kk : ml_W p l e s m below meth c b aT D (pc + 2) lv (.int x :: st) sh M k n) : ml_W p l e s m below meth c b aT D pc lv (st) sh M k n :=
  fun H locs ls hP hz hS hl => lv_bipush C.1.1 C.1.2.1 hd hv (kk H locs ls hP hz hS hl)
theorem ml_iload_n (C : ml_ok p s m meth c b L xs aT D) {f : Fin 4} {i j : Nat} {x : Int32} (hd : decode code pc = .ok (.iload_n f, 1)) (hi : (f : Nat) = i) (hv : lv[j]? = some (i, .int x)) (kk : ml_W p l e s m below meth c b aT D (pc + 1) lv (.int x :: st) sh M k n) : ml_W p l e s m below meth c b aT D pc lv (st) sh M k n :=
  fun H locs ls hP hz hS hl => lv_iload_n C.1.1 C.1.2.1 hd hi (lv_at hl j hv) (kk H locs ls hP hz hS hl)
theorem ml_aload_n (C : ml_ok p s m meth c b L xs aT D) {f : Fin 4} {i j : Nat} {x : Nat} (hd : decode code pc = .ok (.aload_n f, 1)) (hi : (f : Nat) = i) (hv : lv[j]? = some (i, .ref x)) (kk : ml_W p l e s m below meth c b aT D (pc + 1) lv (.ref x :: st) sh M k n) : ml_W p l e s m below meth c b aT D pc lv (st) sh M k n :=
  fun H locs ls hP hz hS hl => lv_aload_n C.1.1 C.1.2.1 hd hi (lv_at hl j hv) (kk H locs ls hP hz hS hl)
theorem ml_iadd (C : ml_ok p s m meth c b L xs aT D) {x z : Int32} (hd : decode code pc = .ok (.iadd, 1)) (kk : ml_W p l e s m below meth c b aT D (pc + 1) lv (.int (x + z) :: st) sh M k n) : ml_W p l e s m below meth c b aT D pc lv (.int z :: .int x :: st) sh M k n :=
  fun H locs ls hP hz hS hl => lv_iadd C.1.1 C.1.2.1 hd (kk H locs ls hP hz hS hl)
theorem ml_isub (C : ml_ok p s m meth c b L xs aT D) {x z : Int32} (hd : decode code pc = .ok (.isub, 1)) (kk : ml_W p l e s m below meth c b aT D (pc + 1) lv (.int (x - z) :: st) sh M k n) : ml_W p l e s m below meth c b aT D pc lv (.int z :: .int x :: st) sh M k n :=
  fun H locs ls hP hz hS hl => lv_isub C.1.1 C.1.2.1 hd (kk H locs ls hP hz hS hl)
theorem ml_iand (C : ml_ok p s m meth c b L xs aT D) {x z : Int32} (hd : decode code pc = .ok (.iand, 1)) (kk : ml_W p l e s m below meth c b aT D (pc + 1) lv (.int (x &&& z) :: st) sh M k n) : ml_W p l e s m below meth c b aT D pc lv (.int z :: .int x :: st) sh M k n :=
  fun H locs ls hP hz hS hl => lv_iand C.1.1 C.1.2.1 hd (kk H locs ls hP hz hS hl)
theorem ml_lcmp (C : ml_ok p s m meth c b L xs aT D) {x z : Int64} (hd : decode code pc = .ok (.lcmp, 1)) (kk : ml_W p l e s m below meth c b aT D (pc + 1) lv (.int (lg_cmp x z) :: st) sh M k n) : ml_W p l e s m below meth c b aT D pc lv (.long z :: .long x :: st) sh M k n :=
  fun H locs ls hP hz hS hl => W.lcmp C.1.1 C.1.2.1 hd (kk H locs ls hP hz hS hl)
theorem ml_dup (C : ml_ok p s m meth c b L xs aT D) {v : Value} (hd : decode code pc = .ok (.dup, 1)) (hv : v.category = 1) (kk : ml_W p l e s m below meth c b aT D (pc + 1) lv (v :: v :: st) sh M k n) : ml_W p l e s m below meth c b aT D pc lv (v :: st) sh M k n :=
  fun H locs ls hP hz hS hl => lv_dup C.1.1 C.1.2.1 hd hv (kk H locs ls hP hz hS hl)
theorem ml_sld (C : ml_ok p s m meth c b L xs aT D) {i : Int32} (hi : vp_in i L) (hd : decode code pc = .ok (.iaload, 1)) (kk : ml_W p l e s m below meth c b aT D (pc + 1) lv (.int (xs i.toNatClampNeg) :: st) sh M k n) : ml_W p l e s m below meth c b aT D pc lv (.int i :: .ref b :: st) sh M k n :=
  fun H locs ls hP hz hS hl => va_sld C.1.1 C.1.2.1 C.1.2.2.2.2.2.2.1 C.1.2.2.2.2.2.2.2.1 (Nat.not_le.mpr C.1.2.2.2.2.2.2.2.1) hS hi hd (kk H locs ls hP hz hS hl)
theorem ml_slen (C : ml_ok p s m meth c b L xs aT D) (hd : decode code pc = .ok (.arraylength, 1)) (kk : ml_W p l e s m below meth c b aT D (pc + 1) lv (.int (nI L) :: st) sh M k n) : ml_W p l e s m below meth c b aT D pc lv (.ref b :: st) sh M k n :=
  fun H locs ls hP hz hS hl => va_slen C.1.1 C.1.2.1 C.1.2.2.2.2.2.2.1 C.1.2.2.2.2.2.2.2.1 (Nat.not_le.mpr C.1.2.2.2.2.2.2.2.1) hS hd (kk H locs ls hP hz hS hl)
theorem ml_icmp_eq (C : ml_ok p s m meth c b L xs aT D) {x z : Int32} {off : Int} {tgt : Nat} (hd : decode code pc = .ok (.if_icmp .eq off, 3)) (ht : (pc : Int) + off = (tgt : Int)) (kt : x = z → ml_W p l e s m below meth c b aT D tgt lv st sh M k n) (kf : ¬ x = z → ml_W p l e s m below meth c b aT D (pc + 3) lv st sh M k n) : ml_W p l e s m below meth c b aT D pc lv (.int z :: .int x :: st) sh M k n :=
  fun H locs ls hP hz hS hl => lv_icmp_eq C.1.1 C.1.2.1 hd ht (fun h => kt h H locs ls hP hz hS hl) (fun h => kf h H locs ls hP hz hS hl)
theorem ml_icmp_gt (C : ml_ok p s m meth c b L xs aT D) {x z : Int32} {off : Int} {tgt : Nat} (hd : decode code pc = .ok (.if_icmp .gt off, 3)) (ht : (pc : Int) + off = (tgt : Int)) (kt : z < x → ml_W p l e s m below meth c b aT D tgt lv st sh M k n) (kf : ¬ z < x → ml_W p l e s m below meth c b aT D (pc + 3) lv st sh M k n) : ml_W p l e s m below meth c b aT D pc lv (.int z :: .int x :: st) sh M k n :=
  fun H locs ls hP hz hS hl => lv_icmp_gt C.1.1 C.1.2.1 hd ht (fun h => kt h H locs ls hP hz hS hl) (fun h => kf h H locs ls hP hz hS hl)
theorem ml_if_eq (C : ml_ok p s m meth c b L xs aT D) {x : Int32} {off : Int} {tgt : Nat} (hd : decode code pc = .ok (.ifCond .eq off, 3)) (ht : (pc : Int) + off = (tgt : Int)) (kt : x = 0 → ml_W p l e s m below meth c b aT D tgt lv st sh M k n) (kf : ¬ x = 0 → ml_W p l e s m below meth c b aT D (pc + 3) lv st sh M k n) : ml_W p l e s m below meth c b aT D pc lv (.int x :: st) sh M k n :=
  fun H locs ls hP hz hS hl => lv_if_eq C.1.1 C.1.2.1 hd ht (fun h => kt h H locs ls hP hz hS hl) (fun h => kf h H locs ls hP hz hS hl)
theorem ml_goto (C : ml_ok p s m meth c b L xs aT D) {off : Int} {tgt : Nat} (hd : decode code pc = .ok (.goto off, 3)) (ht : (pc : Int) + off = (tgt : Int)) (kk : ml_W p l e s m below meth c b aT D tgt lv st sh M k n) : ml_W p l e s m below meth c b aT D pc lv st sh M k n :=
  fun H locs ls hP hz hS hl => lv_goto C.1.1 C.1.2.1 hd ht (kk H locs ls hP hz hS hl)
theorem ml_tableIn (C : ml_ok p s m meth c b L xs aT D) {dflt lo hi : Int} {offs : Array Int} {len : Nat} {x : Int32} {off : Int} {tgt : Nat} (hd : decode code pc = .ok (.tableswitch dflt lo hi offs, len)) (h1 : ¬ x.toInt < lo) (h2 : ¬ hi < x.toInt) (ho : offs[(x.toInt - lo).toNat]? = some off) (ht : (pc : Int) + off = (tgt : Int)) (kk : ml_W p l e s m below meth c b aT D tgt lv st sh M k n) : ml_W p l e s m below meth c b aT D pc lv (.int x :: st) sh M k n :=
  fun H locs ls hP hz hS hl => lv_tableIn C.1.1 C.1.2.1 hd h1 h2 ho ht (kk H locs ls hP hz hS hl)
theorem ml_istore_n (C : ml_ok p s m meth c b L xs aT D) {f : Fin 4} {i : Nat} {x : Int32} (hd : decode code pc = .ok (.istore_n f, 1)) (hi : (f : Nat) = i) (hn : i < 4) (hv : (i, Value.int x) :: lv.filter (fun q => !(q.1 == i) && !(q.1 + 1 == i && q.2.category == 2)) = lv') (kk : ml_W p l e s m below meth c b aT D (pc + 1) lv' st sh M k n) : ml_W p l e s m below meth c b aT D pc lv (.int x :: st) sh M k n :=
  fun H locs ls hP hz hS hl => lv_istore_n C.1.1 C.1.2.1 hd hi hl hn hv (fun ls2 hl2 => kk H locs ls2 hP hz hS hl2)
theorem ml_astore_n (C : ml_ok p s m meth c b L xs aT D) {f : Fin 4} {i : Nat} {x : Nat} (hd : decode code pc = .ok (.astore_n f, 1)) (hi : (f : Nat) = i) (hn : i < 4) (hv : (i, Value.ref x) :: lv.filter (fun q => !(q.1 == i) && !(q.1 + 1 == i && q.2.category == 2)) = lv') (kk : ml_W p l e s m below meth c b aT D (pc + 1) lv' st sh M k n) : ml_W p l e s m below meth c b aT D pc lv (.ref x :: st) sh M k n :=
  fun H locs ls hP hz hS hl => lv_astore_n C.1.1 C.1.2.1 hd hi hl hn hv (fun ls2 hl2 => kk H locs ls2 hP hz hS hl2)
theorem ml_iinc (C : ml_ok p s m meth c b L xs aT D) {i j : Nat} {z : Int} {x v : Int32} (hd : decode code pc = .ok (.iinc i z, 3)) (hj : lv[j]? = some (i, .int x)) (hx : x + Int32.ofInt z = v) (hn : i < 4) (hv : (i, Value.int v) :: lv.filter (fun q => !(q.1 == i) && !(q.1 + 1 == i && q.2.category == 2)) = lv') (kk : ml_W p l e s m below meth c b aT D (pc + 3) lv' st sh M k n) : ml_W p l e s m below meth c b aT D pc lv st sh M k n :=
  fun H locs ls hP hz hS hl => lv_iinc (k := j) C.1.1 C.1.2.1 hd hl hj hx hn hv (fun ls2 hl2 => kk H locs ls2 hP hz hS hl2)
theorem ml_sub (ks : List Nat) (hv : lv_pick lv ks = lv') (kk : ml_W p l e s m below meth c b aT D pc lv' st sh M k n) : ml_W p l e s m below meth c b aT D pc lv st sh M k n :=
  fun H locs ls hP hz hS hl => kk H locs ls hP hz hS (lv_sub hl ks hv)
theorem ml_ret (C : ml_ok p s m meth c b L xs aT D) (hd : decode code pc = .ok (.ireturn, 1)) (h1 : k ≤ 600000) (h2 : n ≤ 7302250) : ml_W p l e s m below meth c b aT D pc lv [.int 1] sh M k n :=
  fun H locs ls hP hz hS hl => va_forget hS.2.2 (W.widen h1 h2 (lw_ret C.1.1 C.1.2.1 C.1.2.2.1 C.1.2.2.2.2.2.2.2.2.1 hd))
theorem ml_words (C : ml_ok p s m meth c b L xs aT D) : ∀ w ∈ mm_ws, w.before #[Value.ref b] s = true := fun w hw => C.1.2.2.2.2.2.1 w (List.mem_filter.mp hw).1
/-- a call out of the law -/
theorem ml_callV (C : ml_ok p s m meth c b L xs aT D) {As rest : List Value} {a ci N idx : Nat} {y' : mm_Y} {Q : Option Value → mm_S → mm_M → Prop} (hd : decode code pc = .ok (.invokevirtual idx, 3)) (L0 : mm_LV R_law idx y' ci As.length) (hst : st = (As.map (mm_v s.heap.size)).reverse ++ .ref (s.heap.size + a) :: rest) (hsh : sh[a]? = some (ci + 5, N)) (hw : (rest.map fun v => v.category).sum ≤ 8) (hln : (lg_sl (.ref a :: As)).length ≤ y'.2.2.1) (h1 : k ≤ 600000) (h2 : n ≤ 7302250) (h : mm_C y' 900 0 0 (.ref a :: As) sh M Q)
    (kk : ∀ (r : Option Value) (sh' : mm_S) (M' : mm_M), Q r sh' M' → ml_W p l e s m below meth c b aT D (pc + 3) lv ((r.map (mm_v s.heap.size)).toList ++ rest) sh' M' k n) : ml_W p l e s m below meth c b aT D pc lv st sh M k n := by
  subst hst
  intro H locs ls hP hz hS hl
  have hK := C.2.1
  have hts := ml_words C
  obtain ⟨r, hlk, ⟨w1, w2, hy, hpn, hml⟩, hin, hse, hc, hrn⟩ := L0
  refine mm_goon (va_runV (As := As.map (mm_v s.heap.size)) (rest := rest) (C := y'.1.cls) (b := s.heap.size + a) ⟨C.1.1, C.1.2.1, C.1.2.2.2.1, C.1.2.2.2.2.1, hts⟩ (mm_met l s.heap.size aT D hpn hln h) (cwV As.length hts (mm_good (fun w hw => ?_)) rfl rfl rfl ⟨rfl, hy⟩ ⟨Nat.le_of_ble_eq_true rfl, by show 8 + (y'.2.2.1 + 11) + 60 * 900 ≤ 84000; omega⟩) ⟨mm_blind, by
      have := va_recv hK.1 hP hc (mm_w_at hsh)
      rw [hrn] at this
      exact this, fun U hU hW => ⟨rfl, by rw [hU]; exact hP, by rw [hU]; exact hz, mm_k_warm hW hK, mm_t_step hS hU hW C.2.2⟩⟩ rfl (by rw [List.length_map]) hl.1 rfl (lv_room hw) hd ⟨h1, h2⟩) hS (fun r sh' M' H1 locs1 hq hP1 hz1 hS1 => ?_)
  · simp only [wsV, List.mem_append, List.mem_cons, List.not_mem_nil, or_false] at hw
    rcases hw with (rfl | rfl | rfl | rfl) | (rfl | hw)
    · exact hlk
    · exact hin
    · exact hse
    · exact w1
    · exact w2
    · exact hw
  · exact kk r sh' M' hq H1 locs1 ls hP1 hz1 hS1 hl
theorem ml_callI (C : ml_ok p s m meth c b L xs aT D) {As rest : List Value} {a idx mc ms : Nat} {y' : mm_Y} {Q : Option Value → mm_S → mm_M → Prop} (hd : decode code pc = .ok (.invokespecial idx, 3)) (hlk : Cond.methodLink R_law idx y'.1 ∈ mm_ws) (hB : mm_B y' As.length) (hrt : y'.2.2.2 = none) (hnm : y'.1.name = "<init>") (hin : Cond.instanceMethod y'.1 ∈ mm_ws) (hst : st = (As.map (mm_v s.heap.size)).reverse ++ .ref (s.heap.size + a) :: rest) (hw : (rest.map fun v => v.category).sum ≤ 8) (hln : (lg_sl (.ref a :: As)).length ≤ y'.2.2.1) (h1 : k + mc ≤ 600000) (h2 : n + ms ≤ 7302250) (h : mm_C y' 900 mc ms (.ref a :: As) sh M Q)
    (kk : ∀ (r : Option Value) (sh' : mm_S) (M' : mm_M), Q r sh' M' → ml_W p l e s m below meth c b aT D (pc + 3) lv ((r.map (mm_v s.heap.size)).toList ++ rest) sh' M' (k + mc) (n + ms)) : ml_W p l e s m below meth c b aT D pc lv st sh M k n := by
  subst hst
  intro H locs ls hP hz hS hl
  have hK := C.2.1
  have hts := ml_words C
  obtain ⟨w1, w2, hy, hpn, hml⟩ := hB
  refine mm_goon (va_runI (As := As.map (mm_v s.heap.size)) (rest := rest) (b := s.heap.size + a) ⟨C.1.1, C.1.2.1, C.1.2.2.2.1, C.1.2.2.2.2.1, hts⟩ (mm_met l s.heap.size aT D hpn hln h) (cwI As.length hts (mm_good (fun w hw => ?_)) (by rw [mm_wsY, hrt]) rfl rfl (hts _ w1) (hts _ hlk) (hts _ hin) hnm hy ⟨Nat.le_of_ble_eq_true rfl, by show 8 + (y'.2.2.1 + 11) + 60 * 900 ≤ 84000; omega⟩) ⟨mm_blind, fun U hU hW => ⟨rfl, by rw [hU]; exact hP, by rw [hU]; exact hz, mm_k_warm hW hK, mm_t_step hS hU hW C.2.2⟩⟩ rfl (by rw [List.length_map]) hl.1 rfl (lv_room hw) hd ⟨h1, h2⟩) hS (fun r sh' M' H1 locs1 hq hP1 hz1 hS1 => ?_)
  · rcases List.mem_cons.mp hw with rfl | hw
    · exact w2
    · exact hw
  · exact kk r sh' M' hq H1 locs1 ls hP1 hz1 hS1 hl
theorem ml_newo (C : ml_ok p s m meth c b L xs aT D) {N ci idx : Nat} {Cn : String} {T : u_T} (hd : decode code pc = .ok (.new idx, 3)) (hc : vwCl[ci]? = some (Cn, T, N)) (hcl : Cond.classLink R_law idx Cn ∈ mm_ws) (hins : Cond.instantiable Cn N ∈ mm_ws) (hini : Cond.initialized Cn ∈ mm_ws) (hkd : ∀ j, j < N → mm_kd (mm_ty ci j) < 3) (h1 : k + 1 ≤ 600000) (h2 : n + N ≤ 7302250)
    (kk : ml_W p l e s m below meth c b aT D (pc + 3) lv (.ref (s.heap.size + sh.length) :: st) (sh ++ [(ci + 5, N)]) (mm_new M sh.length) (k + 1) (n + N)) : ml_W p l e s m below meth c b aT D pc lv st sh M k n := by
  intro H locs ls hP hz hS hl
  have hK := C.2.1.1
  have hts := ml_words C
  obtain ⟨hin, hty, hnm⟩ := mm_cls hc
  have hKn := hK.1 ci _ hc
  refine W.newcK (g := F0 m pc ls st) C.1.1 C.1.2.1 C.1.2.2.2.2.1 (hts _ hcl) (hts _ hins) (hts _ hini) rfl hd h1 h2 hKn.2.1 hz fun H1 kC hkC e1 z1 o1 => ?_
  have hP1 : va_P D vwCl (mm_w s.heap.size aT (sh ++ [(ci + 5, N)]) (mm_new M sh.length)) H1 := mm_P_push hP (fun q hq2 => o1 q (by rw [← hz]; exact hq2)) (by
    refine ⟨_, hc, (u_born (mm_ty ci) hts hin hKn hkC e1 hty).to (fun j hj => ?_)⟩
    have hj3 := hkd j hj
    show defaultValue (mm_ty ci j) = ((List.range N).map _).getD j .null
    rw [List.getD_eq_getElem?_getD, mm_fs_at hj]
    cases h : mm_ty ci j <;> rw [h] at hj3 <;> first | (simp [mm_kd] at hj3; done) | (simp [mm_kd, mm_fv, mm_new, va_up, defaultValue, va_rf]))
  exact kk H1 locs ls hP1 (by rw [z1, List.length_append]; rfl) ⟨Nat.le_trans hS.1 (by omega), fun q g1 g2 => (o1 q (by rw [← hz]; exact Nat.lt_of_lt_of_le g1 hS.1)).trans (hS.2.1 q g1 g2), hS.2.2⟩ hl
end ML
