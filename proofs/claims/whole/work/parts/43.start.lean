theorem mm_inst {ci : Nat} {r : vw_C} (h : vwCl[ci]? = some r) : Cond.instantiable r.1 r.2.2 ∈ mm_ws := by
  match ci, h with
  | 0, h => cases h; exact qi0
  | 1, h => cases h; exact qi1
  | 2, h => cases h; exact qi2
  | 3, h => cases h; exact qi3
  | 4, h => cases h; exact qi4
  | 5, h => cases h; exact qi5
  | 6, h => cases h; exact qi6
  | 7, h => cases h; exact qi7
  | 8, h => cases h; exact qi8
  | 9, h => cases h; exact qi9
  | 10, h => cases h; exact qi10
  | 11, h => cases h; exact qi11
  | 12, h => cases h; exact qi12
  | n + 13, h => simp [vwCl] at h
def lw_el (j : Nat) : Cond := .eq (.elem (.field (.string "EnemyBread$Reader" 137) "java/lang/String" "value" "[B") (.int (Int32.ofNat j))) (.int (mm_bytes.getD j 0))
set_option maxRecDepth 100000 in
theorem lw_els : ((flatC (Jvm.Cond.and given_1 narrow_1)).drop 13).take 165 = (List.range 165).map lw_el := by decide +kernel
theorem lw_el_in {j : Nat} (h : j < 165) : lw_el j ∈ flatC (Jvm.Cond.and given_1 narrow_1) := by
  have h1 : lw_el j ∈ (List.range 165).map lw_el := List.mem_map_of_mem (List.mem_range.mpr h)
  rw [← lw_els] at h1
  exact List.mem_of_mem_drop (List.mem_of_mem_take h1)
set_option maxRecDepth 100000 in
set_option maxHeartbeats 4000000 in
theorem lw_begin {p : Program} {s : State} {m : MethodId} {meth : Method} {c : Code} {b L : Nat} {xs : Nat → Int32} (C0 : lw_At p s m meth c b L xs) : ∃ (aT : Nat → ClassId) (D : va_G), ml_ok p s m meth c b L xs aT D := by
  have C1 := C0
  obtain ⟨hx, hb, hr, hml, hown, hts, hX, hbl, hlocks, hgv⟩ := C1
  have hs := flat_of_before _ hgv
  have hts2 : ∀ w ∈ mm_ws, w.before #[Value.ref b] s = true := fun w hw => hts w (List.mem_filter.mp hw).1
  have hcl : ∀ k : Nat, ∃ q : ClassId × (Nat → Nat), ∀ r, vwCl[k]? = some r → u_Kn s r.1 r.2.1 r.2.2 q.1 q.2 := by
    intro k
    cases hk : vwCl[k]? with
    | none => exact ⟨(0, fun _ => 0), fun r h => by cases h⟩
    | some r =>
      obtain ⟨cC, iS, h⟩ := u_known hts2 (mm_cls hk).1 (hts2 _ (mm_inst hk))
      exact ⟨(cC, iS), fun r' h' => by cases h'; exact h⟩
  obtain ⟨f, hf⟩ := Classical.axiomOfChoice hcl
  have har : ∀ ty : FieldType, (∀ C : String, ¬ ty = .object C) → Cond.arrayClass ty ∈ mm_ws → ∃ c : ClassId, ArrOfT s c ty ∧ va_RA s c ty := by
    intro ty hno hty
    obtain ⟨c, k, comp, h1, h2, h3⟩ := Cond.arrayClass_spec (hts2 _ hty)
    refine ⟨c, fun n z => ⟨fun k h => (by cases h), k, h2, comp, h3⟩, ?_⟩
    cases ty with
    | object C => exact absurd rfl (hno C)
    | _ => exact h1
  obtain ⟨c0, h0⟩ := har .int (fun C h => by cases h) qa0
  obtain ⟨c1, h1⟩ := har .long (fun C h => by cases h) qa1
  obtain ⟨c2, h2⟩ := har .char (fun C h => by cases h) qa2
  obtain ⟨c3, h3⟩ := har .boolean (fun C h => by cases h) qa3
  have hao : (Cond.arrayOver (.object "EnemyBread$State")).before #[Value.ref b] s = true := hts _ (List.mem_append_right _ (List.mem_append_right _ (List.mem_append_left _ (List.mem_of_getElem? (l := tables_1_2) (i := 69) (by decide +kernel)))))
  obtain ⟨comp, c4, k4, g1, g2, g3, g4, g5⟩ := Cond.arrayOver_spec hao
  have h4 : ArrOfT s c4 (.object "EnemyBread$State") ∧ va_RA s c4 (.object "EnemyBread$State") := ⟨fun n z => ⟨fun k h => (by cases h), k4, g3, comp, g4⟩, k4, comp, g3, g4, g1, g5⟩
  have hA : ∀ a : Nat, a < s.heap.size → ¬ (fun q : Nat => s.heap.size ≤ q) a := fun a h => Nat.not_le.mpr h
  obtain ⟨adK, adV, hvS, hvE⟩ := vk_Sof (args := #[Value.ref b]) (s := s) (N := 1) (tm := fun _ => (.string "EnemyBread$Reader" 137)) (len := [165]) (byt := [mm_bytes]) (A := fun q : Nat => s.heap.size ≤ q)
    (fun i hi => by have : i = 0 := by omega
                    subst this; decide)
    (fun i hi => hs _ (by decide +kernel)) (fun i hi => hs _ (by decide +kernel)) (fun i hi => hs _ (by decide +kernel))
    (fun i hi => by have : i = 0 := by omega
                    subst this; exact hs _ (by decide +kernel))
    (fun i hi j hj => by have : i = 0 := by omega
                         subst this; exact hs _ (lw_el_in hj))
    (fun i j hi hj hij => absurd (show i = j by omega) hij) hA
  refine ⟨fun t => match t with | 0 => c0 | 1 => c1 | 2 => c2 | 3 => c3 | _ => c4, (fun k => (f k).1, fun k => (f k).2), C0, ⟨⟨fun k q h => hf k q h, fun k q h => ?_⟩, fun w hw => ?_, va_AO.of hao⟩, adK 0, adV 0, vk_R.of (A := #[Value.ref b]) (hts _ (List.mem_append_right _ (List.mem_append_right _ (List.mem_append_right _ (List.mem_append_left _ (List.mem_of_getElem? (l := tables_1_3) (i := 92) (by decide +kernel))))))) (hvE 0 (by decide)), ⟨fun i hi => ?_, fun i j hi hj _ => by omega⟩, va_Zof (hts _ (List.mem_append_right _ (List.mem_append_right _ (List.mem_append_right _ (List.mem_append_left _ (List.mem_of_getElem? (l := tables_1_3) (i := 102) (by decide +kernel))))))) (hts _ (List.mem_append_right _ (List.mem_append_left _ (List.mem_of_getElem? (l := tables_1_1) (i := 16) (by decide +kernel))))) (va_eqi (hs _ (by decide +kernel))) hA, va_Zqof (hts _ (List.mem_append_right _ (List.mem_append_right _ (List.mem_append_right _ (List.mem_append_left _ (List.mem_of_getElem? (l := tables_1_3) (i := 118) (by decide +kernel))))))) (hts _ (List.mem_append_right _ (List.mem_append_left _ (List.mem_of_getElem? (l := tables_1_1) (i := 18) (by decide +kernel))))) (hs _ (by decide +kernel)) hA⟩
  · match k, h with
    | 0, h => cases h; exact h0
    | 1, h => cases h; exact h1
    | 2, h => cases h; exact h2
    | 3, h => cases h; exact h3
    | 4, h => cases h; exact h4
    | k + 5, h => simp [mm_tys] at h
  · have h1 := hts w (List.mem_filter.mp hw).1
    obtain ⟨a, i, x, q, rfl⟩ := mm_nest_form hw
    exact va_Nw.of rfl h1
  · have : i = 0 := by omega
    subst this
    exact hvS.1 0 hi
def mm_Z0 : mm_M := (fun _ _ => 0, fun _ _ => 0, fun _ _ => none)
/-- the memory behind both constructors -/
def mm_M0 : mm_M := mm_IX12_init (mm_new (mm_IX11_init (mm_new mm_Z0 0)) 164)
set_option maxRecDepth 100000 in
theorem mm_M0_G : mm_G mm_M0.2.2 := by
  unfold mm_G
  decide +kernel
set_option maxRecDepth 100000 in
set_option maxHeartbeats 4000000 in
theorem lw_whole {Inv : Nat → mm_M → Prop} (I0 : Inv 0 mm_M0) (S0 : lw_S0 Inv) (S1 : lw_S1 Inv) (S2 : lw_S2 Inv) (S3 : lw_S3 Inv) (S4 : lw_S4 Inv) (S5 : lw_S5 Inv) (S6 : lw_S6 Inv) (S7 : lw_S7 Inv) (S8 : lw_S8 Inv) (S9 : lw_S9 Inv) (S10 : lw_S10 Inv) (S11 : lw_S11 Inv) (S12 : lw_S12 Inv) (S13 : lw_S13 Inv) (S14 : lw_S14 Inv) (S15 : lw_S15 Inv) (S16 : lw_S16 Inv) (S17 : lw_S17 Inv) (S18 : lw_S18 Inv) (S19 : lw_S19 Inv) (S20 : lw_S20 Inv) (S21 : lw_S21 Inv) (S22 : lw_S22 Inv) (S23 : lw_S23 Inv) (S24 : lw_S24 Inv) (S25 : lw_S25 Inv) (S26 : lw_S26 Inv) (S27 : lw_S27 Inv) (S28 : lw_S28 Inv) (S29 : lw_S29 Inv) (S30 : lw_S30 Inv) (S31 : lw_S31 Inv) {p : Program} {e : Env} {s : State} {m : MethodId} {below : List Frame} {meth : Method} {c : Code} (l : Launch) {b L : Nat} {xs : Nat → Int32} (hL : L ≤ 3072) (C0 : lw_At p s m meth c b L xs) : W p l e room_1 s m #[Value.ref b] below meth c s.heap [] 0 0 (lw_Z below #[Value.ref b] s) (entryFrame m ([Value.ref b] : List Value).toArray 4) := by
  obtain ⟨aT, D, C⟩ := lw_begin C0
  have hl := lv_entry ([.ref b]) (n := 4) (Nat.le_of_ble_eq_true rfl)
  rw [lg_entry_eq]
  have K : ml_W p l e s m below meth c b aT D 0 [(0, .ref b)] [] (mm_SH.take 0) mm_Z0 0 0 := by
    refine ml_newo C (pc := 0) (ci := 11) dL_law_0 rfl qL_7 qi11 qn11 qk11 (by decide) (by decide) ?_
    refine ml_dup C (pc := 3) dL_law_3 rfl ?_
    refine ml_callI C (pc := 4) (As := []) (a := 0) (rest := [.ref (s.heap.size + 0)]) (mc := 163) (ms := 15238) dL_law_4 kL_9 bX11_init rfl rfl iX11_init rfl (Nat.le_of_ble_eq_true rfl) (Nat.le_of_ble_eq_true rfl) (by decide) (by decide) (rX11_init (K := fun m => m = mm_IX11_init (mm_new mm_Z0 0)) rfl) (fun r sh' M' hq => ?_)
    obtain ⟨rfl, rfl, rfl⟩ := hq
    refine ml_astore_n C (pc := 7) (lv' := [(1, .ref (s.heap.size + 0)), (0, .ref b)]) dL_law_7 rfl (by decide) rfl ?_
    refine ml_newo C (pc := 8) (ci := 12) dL_law_8 rfl qL_10 qi12 qn12 qk12 (by decide) (by decide) ?_
    rw [ct_len sh_164, ct_take sh_164]
    refine ml_dup C (pc := 11) dL_law_11 rfl ?_
    refine ml_callI C (pc := 12) (As := []) (a := 164) (rest := [.ref (s.heap.size + 164)]) (mc := 78) (ms := 39588) dL_law_12 kL_12 bX12_init rfl rfl iX12_init rfl (Nat.le_of_ble_eq_true rfl) (Nat.le_of_ble_eq_true rfl) (by decide) (by decide) (rX12_init (K := fun m => m = mm_M0) rfl) (fun r sh' M' hq => ?_)
    obtain ⟨rfl, rfl, rfl⟩ := hq
    refine ml_astore_n C (pc := 15) (lv' := [(2, .ref (s.heap.size + 164)), (1, .ref (s.heap.size + 0)), (0, .ref b)]) dL_law_15 rfl (by decide) rfl ?_
    refine ml_iconst C (pc := 16) (x := 0) dL_law_16 rfl ?_
    refine ml_istore_n C (pc := 17) (lv' := [(3, .int 0), (2, .ref (s.heap.size + 164)), (1, .ref (s.heap.size + 0)), (0, .ref b)]) dL_law_17 rfl (by decide) rfl ?_
    have hfin := lw_loop (k := 0 + 1 + 163 + 1 + 78) (n := 0 + 19 + 15238 + 116 + 39588) S0 S1 S2 S3 S4 S5 S6 S7 S8 S9 S10 S11 S12 S13 S14 S15 S16 S17 S18 S19 S20 S21 S22 S23 S24 S25 S26 S27 S28 S29 S30 S31 (p := p) (l := l) (e := e) (s := s) (m := m) (below := below) (meth := meth) C hL (by decide) (by decide) 514 0 0 mm_M0 rfl (by decide) (by decide) mm_M0_G I0
    exact ml_sub [3, 2, 1, 0] rfl hfin
  exact K s.heap [] _ (fun k q h => by cases h) rfl va_S.rf hl
