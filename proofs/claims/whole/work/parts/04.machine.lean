/-! the machine over one typed memory: cells by their numbers; ints, longs and references apart; a shape says what each cell is -/
abbrev mm_S : Type := List (Nat × Nat)
abbrev mm_M : Type := (Nat → Nat → Int32) × (Nat → Nat → Int64) × (Nat → Nat → Option Nat)
abbrev mm_Y : Type := MethodName × ByteArray × Nat × Option FieldType
def mm_ws : List Cond := lw_tbl.filter goodWord
theorem mm_mem {w : Cond} (h : w ∈ lw_tbl) (g : goodWord w = true) : w ∈ mm_ws := List.mem_filter.mpr ⟨h, g⟩
theorem mm_good {ws : List Cond} (h : ∀ w ∈ ws, w ∈ mm_ws) : GoodIn mm_ws ws := fun w hw => ⟨h w hw, good_of_word (List.mem_filter.mp (h w hw)).2⟩
def mm_isN : Cond → Bool
  | .methodLinkNest .. => true
  | _ => false
def mm_nest : List Cond := lw_tbl.filter mm_isN
theorem mm_memN {w : Cond} (h : w ∈ lw_tbl) (g : mm_isN w = true) : w ∈ mm_nest := List.mem_filter.mpr ⟨h, g⟩
def mm_ty (ci : Nat) : Nat → FieldType := match ci with
  | 0 => tyX0
  | 1 => tyX1
  | 2 => tyX2
  | 3 => tyX3
  | 4 => tyX4
  | 5 => tyX5
  | 6 => tyX6
  | 7 => tyX7
  | 8 => tyX8
  | 9 => tyX9
  | 10 => tyX10
  | 11 => tyX11
  | _ => tyX12
set_option maxRecDepth 100000 in
theorem mm_in0 : ∀ w ∈ u_ws RX0 TX0 3, w ∈ mm_ws := by
  intro w h
  have hg := (by decide +kernel : ∀ w ∈ u_ws RX0 TX0 3, goodWord w = true) w h
  have e : u_ws RX0 TX0 3 = ([195, 197, 199] : List Nat).filterMap (fun i => tables_1[i]?) := by decide +kernel
  rw [e] at h
  obtain ⟨i, -, hi⟩ := List.mem_filterMap.mp h
  exact mm_mem (List.mem_append_right _ (List.mem_of_getElem? hi)) hg
set_option maxRecDepth 100000 in
theorem mm_in1 : ∀ w ∈ u_ws RX1 TX1 5, w ∈ mm_ws := by
  intro w h
  have hg := (by decide +kernel : ∀ w ∈ u_ws RX1 TX1 5, goodWord w = true) w h
  have e : u_ws RX1 TX1 5 = ([245, 247, 249, 251, 253] : List Nat).filterMap (fun i => tables_1[i]?) := by decide +kernel
  rw [e] at h
  obtain ⟨i, -, hi⟩ := List.mem_filterMap.mp h
  exact mm_mem (List.mem_append_right _ (List.mem_of_getElem? hi)) hg
set_option maxRecDepth 100000 in
theorem mm_in2 : ∀ w ∈ u_ws RX2 TX2 3, w ∈ mm_ws := by
  intro w h
  have hg := (by decide +kernel : ∀ w ∈ u_ws RX2 TX2 3, goodWord w = true) w h
  have e : u_ws RX2 TX2 3 = ([176, 178, 180] : List Nat).filterMap (fun i => tables_1[i]?) := by decide +kernel
  rw [e] at h
  obtain ⟨i, -, hi⟩ := List.mem_filterMap.mp h
  exact mm_mem (List.mem_append_right _ (List.mem_of_getElem? hi)) hg
set_option maxRecDepth 100000 in
theorem mm_in3 : ∀ w ∈ u_ws RX3 TX3 6, w ∈ mm_ws := by
  intro w h
  have hg := (by decide +kernel : ∀ w ∈ u_ws RX3 TX3 6, goodWord w = true) w h
  have e : u_ws RX3 TX3 6 = ([380, 382, 384, 386, 388, 390] : List Nat).filterMap (fun i => tables_1[i]?) := by decide +kernel
  rw [e] at h
  obtain ⟨i, -, hi⟩ := List.mem_filterMap.mp h
  exact mm_mem (List.mem_append_right _ (List.mem_of_getElem? hi)) hg
set_option maxRecDepth 100000 in
theorem mm_in4 : ∀ w ∈ u_ws RX4 TX4 3, w ∈ mm_ws := by
  intro w h
  have hg := (by decide +kernel : ∀ w ∈ u_ws RX4 TX4 3, goodWord w = true) w h
  have e : u_ws RX4 TX4 3 = ([315, 317, 319] : List Nat).filterMap (fun i => tables_1[i]?) := by decide +kernel
  rw [e] at h
  obtain ⟨i, -, hi⟩ := List.mem_filterMap.mp h
  exact mm_mem (List.mem_append_right _ (List.mem_of_getElem? hi)) hg
set_option maxRecDepth 100000 in
theorem mm_in5 : ∀ w ∈ u_ws RX5 TX5 4, w ∈ mm_ws := by
  intro w h
  have hg := (by decide +kernel : ∀ w ∈ u_ws RX5 TX5 4, goodWord w = true) w h
  have e : u_ws RX5 TX5 4 = ([224, 226, 228, 230] : List Nat).filterMap (fun i => tables_1[i]?) := by decide +kernel
  rw [e] at h
  obtain ⟨i, -, hi⟩ := List.mem_filterMap.mp h
  exact mm_mem (List.mem_append_right _ (List.mem_of_getElem? hi)) hg
set_option maxRecDepth 100000 in
theorem mm_in6 : ∀ w ∈ u_ws RX6 TX6 15, w ∈ mm_ws := by
  intro w h
  have hg := (by decide +kernel : ∀ w ∈ u_ws RX6 TX6 15, goodWord w = true) w h
  have e : u_ws RX6 TX6 15 = ([77, 79, 81, 83, 85, 87, 89, 91, 93, 95, 97, 99, 101, 103, 105] : List Nat).filterMap (fun i => tables_1[i]?) := by decide +kernel
  rw [e] at h
  obtain ⟨i, -, hi⟩ := List.mem_filterMap.mp h
  exact mm_mem (List.mem_append_right _ (List.mem_of_getElem? hi)) hg
set_option maxRecDepth 100000 in
theorem mm_in7 : ∀ w ∈ u_ws RX7 TX7 11, w ∈ mm_ws := by
  intro w h
  have hg := (by decide +kernel : ∀ w ∈ u_ws RX7 TX7 11, goodWord w = true) w h
  have e : u_ws RX7 TX7 11 = ([149, 151, 153, 155, 157, 159, 161, 163, 165, 167, 169] : List Nat).filterMap (fun i => tables_1[i]?) := by decide +kernel
  rw [e] at h
  obtain ⟨i, -, hi⟩ := List.mem_filterMap.mp h
  exact mm_mem (List.mem_append_right _ (List.mem_of_getElem? hi)) hg
set_option maxRecDepth 100000 in
theorem mm_in8 : ∀ w ∈ u_ws RX8 TX8 15, w ∈ mm_ws := by
  intro w h
  have hg := (by decide +kernel : ∀ w ∈ u_ws RX8 TX8 15, goodWord w = true) w h
  have e : u_ws RX8 TX8 15 = ([421, 423, 425, 427, 429, 431, 433, 435, 437, 439, 441, 443, 445, 447, 449] : List Nat).filterMap (fun i => tables_1[i]?) := by decide +kernel
  rw [e] at h
  obtain ⟨i, -, hi⟩ := List.mem_filterMap.mp h
  exact mm_mem (List.mem_append_right _ (List.mem_of_getElem? hi)) hg
set_option maxRecDepth 100000 in
theorem mm_in9 : ∀ w ∈ u_ws RX9 TX9 7, w ∈ mm_ws := by
  intro w h
  have hg := (by decide +kernel : ∀ w ∈ u_ws RX9 TX9 7, goodWord w = true) w h
  have e : u_ws RX9 TX9 7 = ([287, 289, 291, 293, 295, 297, 299] : List Nat).filterMap (fun i => tables_1[i]?) := by decide +kernel
  rw [e] at h
  obtain ⟨i, -, hi⟩ := List.mem_filterMap.mp h
  exact mm_mem (List.mem_append_right _ (List.mem_of_getElem? hi)) hg
set_option maxRecDepth 100000 in
theorem mm_in10 : ∀ w ∈ u_ws RX10 TX10 11, w ∈ mm_ws := by
  intro w h
  have hg := (by decide +kernel : ∀ w ∈ u_ws RX10 TX10 11, goodWord w = true) w h
  have e : u_ws RX10 TX10 11 = ([344, 346, 348, 350, 352, 354, 356, 358, 360, 362, 364] : List Nat).filterMap (fun i => tables_1[i]?) := by decide +kernel
  rw [e] at h
  obtain ⟨i, -, hi⟩ := List.mem_filterMap.mp h
  exact mm_mem (List.mem_append_right _ (List.mem_of_getElem? hi)) hg
set_option maxRecDepth 100000 in
theorem mm_in11 : ∀ w ∈ u_ws RX11 TX11 19, w ∈ mm_ws := by
  intro w h
  have hg := (by decide +kernel : ∀ w ∈ u_ws RX11 TX11 19, goodWord w = true) w h
  have e : u_ws RX11 TX11 19 = ([472, 474, 476, 478, 480, 482, 484, 486, 488, 490, 492, 494, 496, 498, 500, 502, 504, 506, 508] : List Nat).filterMap (fun i => tables_1[i]?) := by decide +kernel
  rw [e] at h
  obtain ⟨i, -, hi⟩ := List.mem_filterMap.mp h
  exact mm_mem (List.mem_append_right _ (List.mem_of_getElem? hi)) hg
set_option maxRecDepth 100000 in
theorem mm_in12 : ∀ w ∈ u_ws RX12 TX12 116, w ∈ mm_ws := by
  intro w h
  have hg := (by decide +kernel : ∀ w ∈ u_ws RX12 TX12 116, goodWord w = true) w h
  have e : u_ws RX12 TX12 116 = ([1319, 1321, 1323, 1325, 1327, 1329, 1331, 1333, 1335, 1337, 1339, 1341, 1343, 1345, 1347, 1349, 1351, 1353, 1355, 1357, 1359, 1361, 1363, 1365, 1367, 1369, 1371, 1373, 1375, 1377, 1379, 1381, 1383, 1385, 1387, 1389, 1391, 1393, 1395, 1397, 1399, 1401, 1403, 1405, 1407, 1409, 1411, 1413, 1415, 1417, 1419, 1421, 1423, 1425, 1427, 1429, 1431, 1433, 1435, 1437, 1439, 1441, 1443, 1445, 1447, 1449, 1451, 1453, 1455, 1457, 1459, 1461, 1463, 1465, 1467, 1469, 1471, 1473, 1475, 1477, 1479, 1481, 1483, 1485, 1487, 1489, 1491, 1493, 1495, 1497, 1499, 1501, 1503, 1505, 1507, 1509, 1511, 1513, 1515, 1517, 1519, 1521, 1523, 1525, 1527, 1529, 1531, 1533, 1535, 1537, 1539, 1541, 1543, 1545, 1547, 1549] : List Nat).filterMap (fun i => tables_1[i]?) := by decide +kernel
  rw [e] at h
  obtain ⟨i, -, hi⟩ := List.mem_filterMap.mp h
  exact mm_mem (List.mem_append_right _ (List.mem_of_getElem? hi)) hg
def mm_text : String := "loaf house flour salt feud with hate bakes tastes starves cools grows famine day hunger loaves number feuds or and not all min max first last often total most least "
def mm_bytes : List Int32 := [108, 111, 97, 102, 32, 104, 111, 117, 115, 101, 32, 102, 108, 111, 117, 114, 32, 115, 97, 108, 116, 32, 102, 101, 117, 100, 32, 119, 105, 116, 104, 32, 104, 97, 116, 101, 32, 98, 97, 107, 101, 115, 32, 116, 97, 115, 116, 101, 115, 32, 115, 116, 97, 114, 118, 101, 115, 32, 99, 111, 111, 108, 115, 32, 103, 114, 111, 119, 115, 32, 102, 97, 109, 105, 110, 101, 32, 100, 97, 121, 32, 104, 117, 110, 103, 101, 114, 32, 108, 111, 97, 118, 101, 115, 32, 110, 117, 109, 98, 101, 114, 32, 102, 101, 117, 100, 115, 32, 111, 114, 32, 97, 110, 100, 32, 110, 111, 116, 32, 97, 108, 108, 32, 109, 105, 110, 32, 109, 97, 120, 32, 102, 105, 114, 115, 116, 32, 108, 97, 115, 116, 32, 111, 102, 116, 101, 110, 32, 116, 111, 116, 97, 108, 32, 109, 111, 115, 116, 32, 108, 101, 97, 115, 116, 32]
/-- the text constant and what the JDK's own statics hold: outside the memory -/
def mm_tt (b aK aV : Nat) (U : State) : Prop := vk_R "EnemyBread$Reader" 137 mm_text aK U ∧ vk_S 1 [165] [mm_bytes] (fun _ => aK) (fun _ => aV) (fun q => b ≤ q) U U.heap ∧ va_Z "java/lang/String" "COMPACT_STRINGS" "Z" (.int 1) (fun q => b ≤ q) U U.heap ∧ va_Zq "jdk/internal/util/Preconditions" "SIOOBE_FORMATTER" "Ljava/util/function/BiFunction;" (fun q => b ≤ q) U U.heap
def mm_t (b : Nat) (U : State) : Prop := ∃ aK aV : Nat, mm_tt b aK aV U
theorem mm_tt_step {b aK aV : Nat} {s U : State} {H : Heap} {locs : List Loc} (hS : va_S (fun q => b ≤ q) s.heap H locs) (hU : U.heap = H) (hW : s.WarmedH U.vm) (h : mm_tt b aK aV s) : mm_tt b aK aV U := by
  obtain ⟨h1, h2, h3, h4⟩ := h
  refine ⟨vk_R.warm hW h1, ?_, ?_, ?_⟩
  · rw [hU]
    exact vk_S.moved hW.alike (h2.kept hS.2.1)
  · rw [hU]
    exact va_Z.moved hW.alike (h3.kept hS.2.1)
  · rw [hU]
    exact va_Zq.moved hW.alike (h4.kept hS.2.1)
theorem mm_tt_call {b aK aV : Nat} {U : State} {g : JFrame} {mk : MethodId} {a : Array Value} (h : mm_tt b aK aV U) : mm_tt b aK aV (U.calling g mk a) := by
  obtain ⟨h1, h2, h3, h4⟩ := h
  exact ⟨vk_R.same (u := U) rfl h1, vk_S.moved (u := U) (U := U.calling g mk a) (Vm.Alike.refl U.vm) h2, va_Z.moved (u := U) (U := U.calling g mk a) (Vm.Alike.refl U.vm) h3, va_Zq.moved (u := U) (U := U.calling g mk a) (Vm.Alike.refl U.vm) h4⟩
theorem mm_t_step {b : Nat} {s U : State} {H : Heap} {locs : List Loc} (hS : va_S (fun q => b ≤ q) s.heap H locs) (hU : U.heap = H) (hW : s.WarmedH U.vm) (h : mm_t b s) : mm_t b U := h.elim fun aK h => h.elim fun aV h => ⟨aK, aV, mm_tt_step hS hU hW h⟩
theorem mm_t_call {b : Nat} {U : State} {g : JFrame} {mk : MethodId} {a : Array Value} (h : mm_t b U) : mm_t b (U.calling g mk a) := h.elim fun aK h => h.elim fun aV h => ⟨aK, aV, mm_tt_call h⟩
theorem mm_cls {ci : Nat} {r : vw_C} (h : vwCl[ci]? = some r) : (∀ w ∈ u_ws r.1 r.2.1 r.2.2, w ∈ mm_ws) ∧ (∀ k, k < r.2.2 → parseFieldDescriptor (r.2.1 k).2.2.1 = some (mm_ty ci k)) ∧ (∀ a, a < r.2.2 → ∀ b, b < r.2.2 → a ≠ b → (r.2.1 a).2.1 ≠ (r.2.1 b).2.1) := by
  match ci, h with
  | 0, h => cases h; exact ⟨mm_in0, tyX0_ok, nmX0⟩
  | 1, h => cases h; exact ⟨mm_in1, tyX1_ok, nmX1⟩
  | 2, h => cases h; exact ⟨mm_in2, tyX2_ok, nmX2⟩
  | 3, h => cases h; exact ⟨mm_in3, tyX3_ok, nmX3⟩
  | 4, h => cases h; exact ⟨mm_in4, tyX4_ok, nmX4⟩
  | 5, h => cases h; exact ⟨mm_in5, tyX5_ok, nmX5⟩
  | 6, h => cases h; exact ⟨mm_in6, tyX6_ok, nmX6⟩
  | 7, h => cases h; exact ⟨mm_in7, tyX7_ok, nmX7⟩
  | 8, h => cases h; exact ⟨mm_in8, tyX8_ok, nmX8⟩
  | 9, h => cases h; exact ⟨mm_in9, tyX9_ok, nmX9⟩
  | 10, h => cases h; exact ⟨mm_in10, tyX10_ok, nmX10⟩
  | 11, h => cases h; exact ⟨mm_in11, tyX11_ok, nmX11⟩
  | 12, h => cases h; exact ⟨mm_in12, tyX12_ok, nmX12⟩
  | n + 13, h => simp [vwCl] at h
def mm_kd (ty : FieldType) : Nat := match ty with
  | .long => 1
  | .object _ => 2
  | .array _ => 2
  | .float => 3
  | .double => 3
  | _ => 0
def mm_fv (b : Nat) (M : mm_M) (a j : Nat) (kd : Nat) : Value := match kd with
  | 0 => .int (M.1 a j)
  | 1 => .long (M.2.1 a j)
  | _ => va_rf ((M.2.2 a j).map (b + ·))
def mm_v (b : Nat) (v : Value) : Value := match v with
  | .ref k => .ref (b + k)
  | .int x => .int x
  | .long x => .long x
  | .float x => .float x
  | .double x => .double x
  | .null => .null
  | .retAddr q => .retAddr q
theorem mm_v_cat (b : Nat) (v : Value) : (mm_v b v).category = v.category := by cases v <;> rfl
def mm_c (b : Nat) (aT : Nat → ClassId) (M : mm_M) (a : Nat) (q : Nat × Nat) : va_E := match q.1 with
  | 0 => .inl (aT 0, q.2, .inl (M.1 a))
  | 1 => .inl (aT 1, q.2, .inr (.inl (M.2.1 a)))
  | 2 => .inl (aT 2, q.2, .inl (M.1 a))
  | 3 => .inl (aT 3, q.2, .inl (M.1 a))
  | 4 => .inl (aT 4, q.2, .inr (.inr (.inr (.inr (fun j => (M.2.2 a j).map (b + ·))))))
  | t + 5 => .inr (t, (List.range q.2).map (fun j => mm_fv b M a j (mm_kd (mm_ty t j))))
def mm_w (b : Nat) (aT : Nat → ClassId) (sh : mm_S) (M : mm_M) : va_W := sh.mapIdx (fun k q => (b + k, mm_c b aT M k q))
theorem mm_w_at {b : Nat} {aT : Nat → ClassId} {sh : mm_S} {M : mm_M} {a : Nat} {q : Nat × Nat} (h : sh[a]? = some q) : (mm_w b aT sh M)[a]? = some (b + a, mm_c b aT M a q) := by
  simp [mm_w, List.getElem?_mapIdx, h]
theorem mm_w_of {b : Nat} {aT : Nat → ClassId} {sh : mm_S} {M : mm_M} {k : Nat} {x : Nat × va_E} (h : (mm_w b aT sh M)[k]? = some x) : ∃ q, sh[k]? = some q ∧ x = (b + k, mm_c b aT M k q) := by
  unfold mm_w at h
  rw [List.getElem?_mapIdx] at h
  cases hq : sh[k]? with
  | none => rw [hq] at h; cases h
  | some q => rw [hq] at h; exact ⟨q, rfl, (Option.some.inj h).symm⟩
theorem mm_w_len {b : Nat} {aT : Nat → ClassId} {sh : mm_S} {M : mm_M} : (mm_w b aT sh M).length = sh.length := by simp [mm_w]
theorem mm_D {b : Nat} {aT : Nat → ClassId} {sh : mm_S} {M : mm_M} : va_D (fun q => b ≤ q) (mm_w b aT sh M) := by
  refine ⟨fun i j p q hi hj e => ?_, fun k q h => ?_⟩
  · obtain ⟨_, _, rfl⟩ := mm_w_of hi
    obtain ⟨_, _, rfl⟩ := mm_w_of hj
    exact Nat.add_left_cancel e
  · obtain ⟨_, _, rfl⟩ := mm_w_of h
    exact Nat.le_add_right _ _
theorem mm_c_eq {b : Nat} {aT : Nat → ClassId} {M M' : mm_M} {i : Nat} {z : Nat × Nat} (h1 : M'.1 i = M.1 i) (h2 : M'.2.1 i = M.2.1 i) (h3 : M'.2.2 i = M.2.2 i) : mm_c b aT M' i z = mm_c b aT M i z := by
  simp only [mm_c, mm_fv, h1, h2, h3]
theorem mm_P_set {D : va_G} {b : Nat} {aT : Nat → ClassId} {sh : mm_S} {M M' : mm_M} {H : Heap} {a : Nat} {q : Nat × Nat} {e : va_E} (hP : va_P D vwCl ((mm_w b aT sh M).set a (b + a, e)) H) (ha : sh[a]? = some q) (he : e = mm_c b aT M' a q) (ho : ∀ i, i ≠ a → M'.1 i = M.1 i ∧ M'.2.1 i = M.2.1 i ∧ M'.2.2 i = M.2.2 i) : va_P D vwCl (mm_w b aT sh M') H := by
  intro k x hx
  obtain ⟨z, hz, rfl⟩ := mm_w_of hx
  refine hP k _ ?_
  by_cases hk : k = a
  · subst hk
    have hl : k < (mm_w b aT sh M).length := by rw [mm_w_len]; exact (List.getElem?_eq_some_iff.mp ha).1
    rw [List.getElem?_set_self hl]
    cases ha.symm.trans hz
    rw [he]
  · obtain ⟨h1, h2, h3⟩ := ho k hk
    rw [List.getElem?_set_ne (Ne.symm hk), mm_w_at hz, mm_c_eq h1 h2 h3]
def mm_new (M : mm_M) (a : Nat) : mm_M := (va_up M.1 a (fun _ => 0), va_up M.2.1 a (fun _ => 0), va_up M.2.2 a (fun _ => none))
theorem mm_P_push {D : va_G} {b : Nat} {aT : Nat → ClassId} {sh : mm_S} {M : mm_M} {H H1 : Heap} {q : Nat × Nat} (hP : va_P D vwCl (mm_w b aT sh M) H) (ho : ∀ q, q < H.size → H1[q]? = H[q]?) (hc : va_at D vwCl (b + sh.length, mm_c b aT (mm_new M sh.length) sh.length q) H1) : va_P D vwCl (mm_w b aT (sh ++ [q]) (mm_new M sh.length)) H1 := by
  intro k x hx
  obtain ⟨z, hz, rfl⟩ := mm_w_of hx
  by_cases hk : k < sh.length
  · rw [List.getElem?_append_left hk] at hz
    have hne : k ≠ sh.length := Nat.ne_of_lt hk
    rw [mm_c_eq (M := M) (va_up_ne _ _ hne) (va_up_ne _ _ hne) (va_up_ne _ _ hne)]
    have h1 := hP k _ (mm_w_at hz)
    exact h1.kept (ho _ h1.lt)
  · rw [List.getElem?_append_right (by omega)] at hz
    have hz1 : k - sh.length < 1 := (List.getElem?_eq_some_iff.mp hz).1
    have he : k = sh.length := by omega
    subst he
    rw [Nat.sub_self] at hz
    cases hz
    exact hc
def mm_uI (M : mm_M) (a k : Nat) (x : Int32) : mm_M := (va_up M.1 a (upd (M.1 a) k x), M.2.1, M.2.2)
def mm_uL (M : mm_M) (a k : Nat) (x : Int64) : mm_M := (M.1, va_up M.2.1 a (vp_updL (M.2.1 a) k x), M.2.2)
def mm_uR (M : mm_M) (a k : Nat) (x : Option Nat) : mm_M := (M.1, M.2.1, va_up M.2.2 a (va_up (M.2.2 a) k x))
theorem mm_oI {M : mm_M} {a k : Nat} {x : Int32} : ∀ i, i ≠ a → (mm_uI M a k x).1 i = M.1 i ∧ (mm_uI M a k x).2.1 i = M.2.1 i ∧ (mm_uI M a k x).2.2 i = M.2.2 i := fun _ h => ⟨va_up_ne _ _ h, rfl, rfl⟩
theorem mm_oL {M : mm_M} {a k : Nat} {x : Int64} : ∀ i, i ≠ a → (mm_uL M a k x).1 i = M.1 i ∧ (mm_uL M a k x).2.1 i = M.2.1 i ∧ (mm_uL M a k x).2.2 i = M.2.2 i := fun _ h => ⟨rfl, va_up_ne _ _ h, rfl⟩
theorem mm_oR {M : mm_M} {a k : Nat} {x : Option Nat} : ∀ i, i ≠ a → (mm_uR M a k x).1 i = M.1 i ∧ (mm_uR M a k x).2.1 i = M.2.1 i ∧ (mm_uR M a k x).2.2 i = M.2.2 i := fun _ h => ⟨rfl, rfl, va_up_ne _ _ h⟩
theorem mm_fs {N k : Nat} {f g : Nat → Value} {v : Value} (hk : k < N) (hv : g k = v) (h : ∀ j, j ≠ k → g j = f j) : ((List.range N).map f).set k v = (List.range N).map g := by
  apply List.ext_getElem?
  intro i
  by_cases hi : i = k
  · subst hi
    rw [List.getElem?_set_self (by simpa using hk)]
    simp [hk, hv]
  · rw [List.getElem?_set_ne (Ne.symm hi), List.getElem?_map, List.getElem?_map]
    cases hr : (List.range N)[i]? with
    | none => rfl
    | some z =>
      have hz : z = i := by
        have := List.getElem?_range (n := N) (i := i)
        by_cases hl : i < N
        · rw [List.getElem?_range hl] at hr; exact (Option.some.inj hr).symm
        · rw [List.getElem?_eq_none (by simpa using hl)] at hr; cases hr
      subst hz
      simp [h z hi]
theorem mm_fs_at {N k : Nat} {f : Nat → Value} (hk : k < N) : ((List.range N).map f)[k]? = some (f k) := by
  rw [List.getElem?_map, List.getElem?_range hk]; rfl
theorem mm_fv_up {M : mm_M} {b a j k : Nat} {x : Int32} {kd : Nat} (h : j ≠ k) : mm_fv b (mm_uI M a k x) a j kd = mm_fv b M a j kd := by
  match kd with
  | 0 => simp [mm_fv, mm_uI, va_up, upd, h]
  | 1 => rfl
  | n + 2 => rfl
theorem mm_fv_upL {M : mm_M} {b a j k : Nat} {x : Int64} {kd : Nat} (h : j ≠ k) : mm_fv b (mm_uL M a k x) a j kd = mm_fv b M a j kd := by
  match kd with
  | 0 => rfl
  | 1 => simp [mm_fv, mm_uL, va_up, vp_updL, h]
  | n + 2 => rfl
theorem mm_fv_upR {M : mm_M} {b a j k : Nat} {x : Option Nat} {kd : Nat} (h : j ≠ k) : mm_fv b (mm_uR M a k x) a j kd = mm_fv b M a j kd := by
  match kd with
  | 0 => rfl
  | 1 => rfl
  | n + 2 => simp [mm_fv, mm_uR, va_up, h]
def mm_tys (aT : Nat → ClassId) : List (ClassId × FieldType) := [(aT 0, .int), (aT 1, .long), (aT 2, .char), (aT 3, .boolean), (aT 4, .object "EnemyBread$State")]
def mm_k (aT : Nat → ClassId) (D : va_G) (U : State) : Prop := va_K D vwCl (mm_tys aT) U ∧ (∀ w ∈ mm_nest, va_Nw w U) ∧ va_AO "EnemyBread$State" U
theorem mm_nest_form {w : Cond} (h : w ∈ mm_nest) : ∃ a i x q, w = .methodLinkNest a i x q := by
  have h2 := (List.mem_filter.mp h).2
  cases w with
  | methodLinkNest a i x q => exact ⟨a, i, x, q, rfl⟩
  | _ => simp [mm_isN] at h2
theorem mm_k_warm {aT : Nat → ClassId} {D : va_G} {s U : State} (hW : s.WarmedH U.vm) (h : mm_k aT D s) : mm_k aT D U := by
  refine ⟨va_K.moved hW.alike h.1, fun w hw => ?_, va_AO.moved hW.alike h.2.2⟩
  have h1 := h.2.1 w hw
  obtain ⟨a, i, x, q, rfl⟩ := mm_nest_form hw
  exact va_Nw.warmM hW h1
theorem mm_k_call {aT : Nat → ClassId} {D : va_G} {U : State} {g : JFrame} {mk : MethodId} {a : Array Value} (h : mm_k aT D U) : mm_k aT D (U.calling g mk a) := by
  refine ⟨va_K.moved (u := U) (U := U.calling g mk a) (Vm.Alike.refl U.vm) h.1, fun w hw => ?_, va_AO.moved (u := U) (U := U.calling g mk a) (Vm.Alike.refl U.vm) h.2.2⟩
  have h1 := h.2.1 w hw
  obtain ⟨a, i, x, q, rfl⟩ := mm_nest_form hw
  exact va_Nw.same rfl rfl h1
def mm_Qc (b : Nat) (aT : Nat → ClassId) (D : va_G) (Q : Option Value → mm_S → mm_M → Prop) : Array Value → State → Outcome → State → Prop := fun _ st oc t => (∃ (r : Option Value) (sh' : mm_S) (M' : mm_M), oc = .returned (r.map (mm_v b)) ∧ Q r sh' M' ∧ va_P D vwCl (mm_w b aT sh' M') t.heap ∧ t.heap.size = b + sh'.length) ∧ va_F (fun q => b ≤ q) st t
abbrev mm_R (d mc ms : Nat) : Room := { frames := d, cells := mc, slots := ms, locals := 60 * d }
abbrev mm_lv (b : Nat) (lv : List (Nat × Value)) : List (Nat × Value) := lv.map (fun q => (q.1, mm_v b q.2))
def mm_ok (y : mm_Y) (b : Nat) (aT : Nat → ClassId) (D : va_G) (p : Program) (s : State) (m : MethodId) (args : Array Value) (meth : Method) (c : Code) : Prop :=
  p.tables.exec = Jvm.exec ∧ c.code = y.2.1 ∧ c.maxLocals = y.2.2.1 ∧ s.vm.findClass y.1.cls = some m.cls ∧ (∀ w ∈ mm_ws, w.before args s = true) ∧ meth.sig.returnType = y.2.2.2 ∧ meth.locks = false ∧ meth.name = y.1.name ∧ mm_k aT D s ∧ b ≤ s.heap.size ∧ mm_t b s
/-- from the frame of y at pc, with these locals and this stack, over the memory M of shape sh, y comes to its end with Q; d: how deep calls may go; mc, ms: cells and slots that y makes in all, k, n: those made so far -/
def mm_W (y : mm_Y) (d mc ms pc : Nat) (lv : List (Nat × Value)) (st : List Value) (sh : mm_S) (M : mm_M) (k n : Nat) (Q : Option Value → mm_S → mm_M → Prop) : Prop :=
  ∀ (b : Nat) (aT : Nat → ClassId) (D : va_G) (p : Program) (l : Launch) (e : Env) (s : State) (m : MethodId) (args : Array Value) (below : List Frame) (meth : Method) (c : Code) (H : Heap) (locs : List Loc) (ls : Array Slot),
    mm_ok y b aT D p s m args meth c → va_P D vwCl (mm_w b aT sh M) H → H.size = b + sh.length → va_S (fun q => b ≤ q) s.heap H locs → lv_has ls y.2.2.1 (mm_lv b lv) →
    W p l e (mm_R d mc ms) s m args below meth c H locs k n (MQ below (mm_Qc b aT D Q) args s mc ms (fun q => b ≤ q)) (F0 m pc ls (st.map (mm_v b)))
/-- a call of y: its start -/
def mm_C (y : mm_Y) (d mc ms : Nat) (vs : List Value) (sh : mm_S) (M : mm_M) (Q : Option Value → mm_S → mm_M → Prop) : Prop := mm_W y d mc ms 0 (lv_args 0 vs) [] sh M 0 0 Q
theorem mm_hl {b nL j i : Nat} {v : Value} {ls : Array Slot} {lv : List (Nat × Value)} (h : lv_has ls nL (mm_lv b lv)) (hl : lv[j]? = some (i, v)) : ls[i]? = some (.val (mm_v b v)) := lv_at h j (by rw [List.getElem?_map, hl]; rfl)
theorem mm_fil1 (b i : Nat) (lv : List (Nat × Value)) : (mm_lv b lv).filter (fun q => !(q.1 == i) && !(q.1 + 1 == i && q.2.category == 2)) = mm_lv b (lv.filter (fun q => !(q.1 == i) && !(q.1 + 1 == i && q.2.category == 2))) := by
  rw [mm_lv, List.filter_map]
  have e : ((fun q : Nat × Value => !(q.1 == i) && !(q.1 + 1 == i && q.2.category == 2)) ∘ fun q : Nat × Value => (q.1, mm_v b q.2)) = (fun q => !(q.1 == i) && !(q.1 + 1 == i && q.2.category == 2)) := by
    funext q
    simp only [Function.comp, mm_v_cat]
  rw [e]
theorem mm_fil2 (b i : Nat) (lv : List (Nat × Value)) : (mm_lv b lv).filter (fun q => !(q.1 == i) && (!(q.1 == i + 1) && !(q.1 + 1 == i && q.2.category == 2))) = mm_lv b (lv.filter (fun q => !(q.1 == i) && (!(q.1 == i + 1) && !(q.1 + 1 == i && q.2.category == 2)))) := by
  rw [mm_lv, List.filter_map]
  have e : ((fun q : Nat × Value => !(q.1 == i) && (!(q.1 == i + 1) && !(q.1 + 1 == i && q.2.category == 2))) ∘ fun q : Nat × Value => (q.1, mm_v b q.2)) = (fun q => !(q.1 == i) && (!(q.1 == i + 1) && !(q.1 + 1 == i && q.2.category == 2))) := by
    funext q
    simp only [Function.comp, mm_v_cat]
  rw [e]
section MMA
variable {y : mm_Y} {d mc ms pc : Nat} {lv lv' : List (Nat × Value)} {st : List Value} {sh : mm_S} {M : mm_M} {k n : Nat} {Q : Option Value → mm_S → mm_M → Prop}
/-- fewer locals, in another order -/
theorem mm_sub (ks : List Nat) (hl : lv_pick lv ks = lv') (kk : mm_W y d mc ms pc lv' st sh M k n Q) : mm_W y d mc ms pc lv st sh M k n Q :=
  fun b aT D p l e s m args below meth c H locs ls X hP hz hS hl2 => kk b aT D p l e s m args below meth c H locs ls X hP hz hS (lv_sub hl2 ks (by
    rw [← hl]
    unfold lv_pick
    show _ = List.map (fun q => (q.1, mm_v b q.2)) (List.filterMap (fun k => lv[k]?) ks)
    rw [List.map_filterMap]
    congr 1
    funext i
    rw [List.getElem?_map]))
theorem mm_post {Q' : Option Value → mm_S → mm_M → Prop} (h : ∀ r s m, Q' r s m → Q r s m) (kk : mm_W y d mc ms pc lv st sh M k n Q') : mm_W y d mc ms pc lv st sh M k n Q := by
  intro b aT D p l e s m args below meth c H locs ls X hP hz hS hl T hT XX
  obtain ⟨t, h1, o, h2, h3, ⟨⟨r, sh', M', q1, q2, q3⟩, q4⟩, h4⟩ := kk b aT D p l e s m args below meth c H locs ls X hP hz hS hl T hT XX
  exact ⟨t, h1, o, h2, h3, ⟨⟨r, sh', M', q1, h _ _ _ q2, q3⟩, q4⟩, h4⟩
theorem mm_iconst {i : Int} {x : Int32} (hd : decode y.2.1 pc = .ok (.iconst i, 1)) (hv : Int32.ofInt i = x) (kk : mm_W y d mc ms (pc + 1) lv (.int x :: st) sh M k n Q) : mm_W y d mc ms pc lv (st) sh M k n Q :=
  fun b aT D p l e s m args below meth c H locs ls X hP hz hS hl => lv_iconst X.1 X.2.1 hd hv (kk b aT D p l e s m args below meth c H locs ls X hP hz hS hl)
theorem mm_bipush {i : Int} {x : Int32} (hd : decode y.2.1 pc = .ok (.bipush i, 2)) (hv : (Int8.ofInt i).toInt32 = x) (kk : mm_W y d mc ms (pc + 2) lv (.int x :: st) sh M k n Q) : mm_W y d mc ms pc lv (st) sh M k n Q :=
  fun b aT D p l e s m args below meth c H locs ls X hP hz hS hl => lv_bipush X.1 X.2.1 hd hv (kk b aT D p l e s m args below meth c H locs ls X hP hz hS hl)
theorem mm_sipush {i : Int} {x : Int32} (hd : decode y.2.1 pc = .ok (.sipush i, 3)) (hv : (Int16.ofInt i).toInt32 = x) (kk : mm_W y d mc ms (pc + 3) lv (.int x :: st) sh M k n Q) : mm_W y d mc ms pc lv (st) sh M k n Q :=
  fun b aT D p l e s m args below meth c H locs ls X hP hz hS hl => lv_sipush X.1 X.2.1 hd hv (kk b aT D p l e s m args below meth c H locs ls X hP hz hS hl)
theorem mm_lconst {i : Fin 2} {x : Int64} (hd : decode y.2.1 pc = .ok (.lconst i, 1)) (hv : Int64.ofNat (i : Nat) = x) (kk : mm_W y d mc ms (pc + 1) lv (.long x :: st) sh M k n Q) : mm_W y d mc ms pc lv (st) sh M k n Q :=
  fun b aT D p l e s m args below meth c H locs ls X hP hz hS hl => lv_lconst X.1 X.2.1 hd hv (kk b aT D p l e s m args below meth c H locs ls X hP hz hS hl)
theorem mm_ldc {i : Nat} {x : Int32} (hd : decode y.2.1 pc = .ok (.ldc i, 2)) (hc : Cond.constant y.1.cls i x ∈ mm_ws) (kk : mm_W y d mc ms (pc + 2) lv (.int x :: st) sh M k n Q) : mm_W y d mc ms pc lv (st) sh M k n Q :=
  fun b aT D p l e s m args below meth c H locs ls X hP hz hS hl => lv_ldc X.1 X.2.1 X.2.2.2.1 (X.2.2.2.2.1 _ hc) hd (kk b aT D p l e s m args below meth c H locs ls X hP hz hS hl)
theorem mm_ldcw {i : Nat} {x : Int32} (hd : decode y.2.1 pc = .ok (.ldc_w i, 3)) (hc : Cond.constant y.1.cls i x ∈ mm_ws) (kk : mm_W y d mc ms (pc + 3) lv (.int x :: st) sh M k n Q) : mm_W y d mc ms pc lv (st) sh M k n Q :=
  fun b aT D p l e s m args below meth c H locs ls X hP hz hS hl => lv_ldcw X.1 X.2.1 X.2.2.2.1 (X.2.2.2.2.1 _ hc) hd (kk b aT D p l e s m args below meth c H locs ls X hP hz hS hl)
theorem mm_ldc2 {i : Nat} {x : Int64} (hd : decode y.2.1 pc = .ok (.ldc2_w i, 3)) (hc : Cond.constantLong y.1.cls i x ∈ mm_ws) (kk : mm_W y d mc ms (pc + 3) lv (.long x :: st) sh M k n Q) : mm_W y d mc ms pc lv (st) sh M k n Q :=
  fun b aT D p l e s m args below meth c H locs ls X hP hz hS hl => lv_ldc2 X.1 X.2.1 X.2.2.2.1 (X.2.2.2.2.1 _ hc) hd (kk b aT D p l e s m args below meth c H locs ls X hP hz hS hl)
theorem mm_iload_n {f : Fin 4} {i j : Nat} {x : Int32} (hd : decode y.2.1 pc = .ok (.iload_n f, 1)) (hi : (f : Nat) = i) (hv : lv[j]? = some (i, .int x)) (kk : mm_W y d mc ms (pc + 1) lv (.int x :: st) sh M k n Q) : mm_W y d mc ms pc lv (st) sh M k n Q :=
  fun b aT D p l e s m args below meth c H locs ls X hP hz hS hl => lv_iload_n X.1 X.2.1 hd hi (mm_hl hl hv) (kk b aT D p l e s m args below meth c H locs ls X hP hz hS hl)
theorem mm_iload {i j : Nat} {x : Int32} (hd : decode y.2.1 pc = .ok (.iload i, 2)) (hv : lv[j]? = some (i, .int x)) (kk : mm_W y d mc ms (pc + 2) lv (.int x :: st) sh M k n Q) : mm_W y d mc ms pc lv (st) sh M k n Q :=
  fun b aT D p l e s m args below meth c H locs ls X hP hz hS hl => lv_iload X.1 X.2.1 hd (mm_hl hl hv) (kk b aT D p l e s m args below meth c H locs ls X hP hz hS hl)
theorem mm_lload_n {f : Fin 4} {i j : Nat} {x : Int64} (hd : decode y.2.1 pc = .ok (.lload_n f, 1)) (hi : (f : Nat) = i) (hv : lv[j]? = some (i, .long x)) (kk : mm_W y d mc ms (pc + 1) lv (.long x :: st) sh M k n Q) : mm_W y d mc ms pc lv (st) sh M k n Q :=
  fun b aT D p l e s m args below meth c H locs ls X hP hz hS hl => lv_lload_n X.1 X.2.1 hd hi (mm_hl hl hv) (kk b aT D p l e s m args below meth c H locs ls X hP hz hS hl)
theorem mm_lload {i j : Nat} {x : Int64} (hd : decode y.2.1 pc = .ok (.lload i, 2)) (hv : lv[j]? = some (i, .long x)) (kk : mm_W y d mc ms (pc + 2) lv (.long x :: st) sh M k n Q) : mm_W y d mc ms pc lv (st) sh M k n Q :=
  fun b aT D p l e s m args below meth c H locs ls X hP hz hS hl => lv_lload X.1 X.2.1 hd (mm_hl hl hv) (kk b aT D p l e s m args below meth c H locs ls X hP hz hS hl)
theorem mm_aload_n {f : Fin 4} {i j : Nat} {x : Nat} (hd : decode y.2.1 pc = .ok (.aload_n f, 1)) (hi : (f : Nat) = i) (hv : lv[j]? = some (i, .ref x)) (kk : mm_W y d mc ms (pc + 1) lv (.ref x :: st) sh M k n Q) : mm_W y d mc ms pc lv (st) sh M k n Q :=
  fun b aT D p l e s m args below meth c H locs ls X hP hz hS hl => lv_aload_n X.1 X.2.1 hd hi (mm_hl hl hv) (kk b aT D p l e s m args below meth c H locs ls X hP hz hS hl)
theorem mm_aload {i j : Nat} {x : Nat} (hd : decode y.2.1 pc = .ok (.aload i, 2)) (hv : lv[j]? = some (i, .ref x)) (kk : mm_W y d mc ms (pc + 2) lv (.ref x :: st) sh M k n Q) : mm_W y d mc ms pc lv (st) sh M k n Q :=
  fun b aT D p l e s m args below meth c H locs ls X hP hz hS hl => lv_aload X.1 X.2.1 hd (mm_hl hl hv) (kk b aT D p l e s m args below meth c H locs ls X hP hz hS hl)
theorem mm_aload_nN {f : Fin 4} {i j : Nat} (hd : decode y.2.1 pc = .ok (.aload_n f, 1)) (hi : (f : Nat) = i) (hv : lv[j]? = some (i, .null)) (kk : mm_W y d mc ms (pc + 1) lv (.null :: st) sh M k n Q) : mm_W y d mc ms pc lv (st) sh M k n Q :=
  fun b aT D p l e s m args below meth c H locs ls X hP hz hS hl => lv_aload_nN X.1 X.2.1 hd hi (mm_hl hl hv) (kk b aT D p l e s m args below meth c H locs ls X hP hz hS hl)
theorem mm_istore_n {f : Fin 4} {i : Nat} {x : Int32} (hd : decode y.2.1 pc = .ok (.istore_n f, 1)) (hi : (f : Nat) = i) (hn : i < y.2.2.1) (hv : (i, Value.int x) :: lv.filter (fun q => !(q.1 == i) && !(q.1 + 1 == i && q.2.category == 2)) = lv') (kk : mm_W y d mc ms (pc + 1) lv' st sh M k n Q) : mm_W y d mc ms pc lv (.int x :: st) sh M k n Q :=
  fun b aT D p l e s m args below meth c H locs ls X hP hz hS hl => lv_istore_n X.1 X.2.1 hd hi hl hn (by rw [mm_fil1, ← hv]; rfl) (fun ls2 hl2 => kk b aT D p l e s m args below meth c H locs ls2 X hP hz hS hl2)
theorem mm_istore {i : Nat} {x : Int32} (hd : decode y.2.1 pc = .ok (.istore i, 2)) (hn : i < y.2.2.1) (hv : (i, Value.int x) :: lv.filter (fun q => !(q.1 == i) && !(q.1 + 1 == i && q.2.category == 2)) = lv') (kk : mm_W y d mc ms (pc + 2) lv' st sh M k n Q) : mm_W y d mc ms pc lv (.int x :: st) sh M k n Q :=
  fun b aT D p l e s m args below meth c H locs ls X hP hz hS hl => lv_istore X.1 X.2.1 hd hl hn (by rw [mm_fil1, ← hv]; rfl) (fun ls2 hl2 => kk b aT D p l e s m args below meth c H locs ls2 X hP hz hS hl2)
theorem mm_lstore_n {f : Fin 4} {i : Nat} {x : Int64} (hd : decode y.2.1 pc = .ok (.lstore_n f, 1)) (hi : (f : Nat) = i) (hn : i + 1 < y.2.2.1) (hv : (i, Value.long x) :: lv.filter (fun q => !(q.1 == i) && (!(q.1 == i + 1) && !(q.1 + 1 == i && q.2.category == 2))) = lv') (kk : mm_W y d mc ms (pc + 1) lv' st sh M k n Q) : mm_W y d mc ms pc lv (.long x :: st) sh M k n Q :=
  fun b aT D p l e s m args below meth c H locs ls X hP hz hS hl => lv_lstore_n X.1 X.2.1 hd hi hl hn (by rw [mm_fil2, ← hv]; rfl) (fun ls2 hl2 => kk b aT D p l e s m args below meth c H locs ls2 X hP hz hS hl2)
theorem mm_lstore {i : Nat} {x : Int64} (hd : decode y.2.1 pc = .ok (.lstore i, 2)) (hn : i + 1 < y.2.2.1) (hv : (i, Value.long x) :: lv.filter (fun q => !(q.1 == i) && (!(q.1 == i + 1) && !(q.1 + 1 == i && q.2.category == 2))) = lv') (kk : mm_W y d mc ms (pc + 2) lv' st sh M k n Q) : mm_W y d mc ms pc lv (.long x :: st) sh M k n Q :=
  fun b aT D p l e s m args below meth c H locs ls X hP hz hS hl => lv_lstore X.1 X.2.1 hd hl hn (by rw [mm_fil2, ← hv]; rfl) (fun ls2 hl2 => kk b aT D p l e s m args below meth c H locs ls2 X hP hz hS hl2)
theorem mm_astore_n {f : Fin 4} {i : Nat} {x : Nat} (hd : decode y.2.1 pc = .ok (.astore_n f, 1)) (hi : (f : Nat) = i) (hn : i < y.2.2.1) (hv : (i, Value.ref x) :: lv.filter (fun q => !(q.1 == i) && !(q.1 + 1 == i && q.2.category == 2)) = lv') (kk : mm_W y d mc ms (pc + 1) lv' st sh M k n Q) : mm_W y d mc ms pc lv (.ref x :: st) sh M k n Q :=
  fun b aT D p l e s m args below meth c H locs ls X hP hz hS hl => lv_astore_n X.1 X.2.1 hd hi hl hn (by rw [mm_fil1, ← hv]; rfl) (fun ls2 hl2 => kk b aT D p l e s m args below meth c H locs ls2 X hP hz hS hl2)
theorem mm_astore {i : Nat} {x : Nat} (hd : decode y.2.1 pc = .ok (.astore i, 2)) (hn : i < y.2.2.1) (hv : (i, Value.ref x) :: lv.filter (fun q => !(q.1 == i) && !(q.1 + 1 == i && q.2.category == 2)) = lv') (kk : mm_W y d mc ms (pc + 2) lv' st sh M k n Q) : mm_W y d mc ms pc lv (.ref x :: st) sh M k n Q :=
  fun b aT D p l e s m args below meth c H locs ls X hP hz hS hl => lv_astore X.1 X.2.1 hd hl hn (by rw [mm_fil1, ← hv]; rfl) (fun ls2 hl2 => kk b aT D p l e s m args below meth c H locs ls2 X hP hz hS hl2)
theorem mm_iinc {i j : Nat} {z : Int} {x v : Int32} (hd : decode y.2.1 pc = .ok (.iinc i z, 3)) (hj : lv[j]? = some (i, .int x)) (hx : x + Int32.ofInt z = v) (hn : i < y.2.2.1) (hv : (i, Value.int v) :: lv.filter (fun q => !(q.1 == i) && !(q.1 + 1 == i && q.2.category == 2)) = lv') (kk : mm_W y d mc ms (pc + 3) lv' st sh M k n Q) : mm_W y d mc ms pc lv st sh M k n Q :=
  fun b aT D p l e s m args below meth c H locs ls X hP hz hS hl => lv_iinc (k := j) X.1 X.2.1 hd hl (by rw [List.getElem?_map, hj]; rfl) hx hn (by rw [mm_fil1, ← hv]; rfl) (fun ls2 hl2 => kk b aT D p l e s m args below meth c H locs ls2 X hP hz hS hl2)
theorem mm_iadd {x z : Int32} (hd : decode y.2.1 pc = .ok (.iadd, 1)) (kk : mm_W y d mc ms (pc + 1) lv (.int (x + z) :: st) sh M k n Q) : mm_W y d mc ms pc lv (.int z :: .int x :: st) sh M k n Q :=
  fun b aT D p l e s m args below meth c H locs ls X hP hz hS hl => lv_iadd X.1 X.2.1 hd (kk b aT D p l e s m args below meth c H locs ls X hP hz hS hl)
theorem mm_isub {x z : Int32} (hd : decode y.2.1 pc = .ok (.isub, 1)) (kk : mm_W y d mc ms (pc + 1) lv (.int (x - z) :: st) sh M k n Q) : mm_W y d mc ms pc lv (.int z :: .int x :: st) sh M k n Q :=
  fun b aT D p l e s m args below meth c H locs ls X hP hz hS hl => lv_isub X.1 X.2.1 hd (kk b aT D p l e s m args below meth c H locs ls X hP hz hS hl)
theorem mm_imul {x z : Int32} (hd : decode y.2.1 pc = .ok (.imul, 1)) (kk : mm_W y d mc ms (pc + 1) lv (.int (x * z) :: st) sh M k n Q) : mm_W y d mc ms pc lv (.int z :: .int x :: st) sh M k n Q :=
  fun b aT D p l e s m args below meth c H locs ls X hP hz hS hl => lv_imul X.1 X.2.1 hd (kk b aT D p l e s m args below meth c H locs ls X hP hz hS hl)
theorem mm_iand {x z : Int32} (hd : decode y.2.1 pc = .ok (.iand, 1)) (kk : mm_W y d mc ms (pc + 1) lv (.int (x &&& z) :: st) sh M k n Q) : mm_W y d mc ms pc lv (.int z :: .int x :: st) sh M k n Q :=
  fun b aT D p l e s m args below meth c H locs ls X hP hz hS hl => lv_iand X.1 X.2.1 hd (kk b aT D p l e s m args below meth c H locs ls X hP hz hS hl)
theorem mm_ior {x z : Int32} (hd : decode y.2.1 pc = .ok (.ior, 1)) (kk : mm_W y d mc ms (pc + 1) lv (.int (x ||| z) :: st) sh M k n Q) : mm_W y d mc ms pc lv (.int z :: .int x :: st) sh M k n Q :=
  fun b aT D p l e s m args below meth c H locs ls X hP hz hS hl => lv_ior X.1 X.2.1 hd (kk b aT D p l e s m args below meth c H locs ls X hP hz hS hl)
theorem mm_ixor {x z : Int32} (hd : decode y.2.1 pc = .ok (.ixor, 1)) (kk : mm_W y d mc ms (pc + 1) lv (.int (x ^^^ z) :: st) sh M k n Q) : mm_W y d mc ms pc lv (.int z :: .int x :: st) sh M k n Q :=
  fun b aT D p l e s m args below meth c H locs ls X hP hz hS hl => lv_ixor X.1 X.2.1 hd (kk b aT D p l e s m args below meth c H locs ls X hP hz hS hl)
theorem mm_ishl {x z : Int32} (hd : decode y.2.1 pc = .ok (.ishl, 1)) (kk : mm_W y d mc ms (pc + 1) lv (.int (x <<< (z &&& 31)) :: st) sh M k n Q) : mm_W y d mc ms pc lv (.int z :: .int x :: st) sh M k n Q :=
  fun b aT D p l e s m args below meth c H locs ls X hP hz hS hl => lv_ishl X.1 X.2.1 hd (kk b aT D p l e s m args below meth c H locs ls X hP hz hS hl)
theorem mm_ishr {x z : Int32} (hd : decode y.2.1 pc = .ok (.ishr, 1)) (kk : mm_W y d mc ms (pc + 1) lv (.int (x >>> (z &&& 31)) :: st) sh M k n Q) : mm_W y d mc ms pc lv (.int z :: .int x :: st) sh M k n Q :=
  fun b aT D p l e s m args below meth c H locs ls X hP hz hS hl => lv_ishr X.1 X.2.1 hd (kk b aT D p l e s m args below meth c H locs ls X hP hz hS hl)
theorem mm_idiv {x z : Int32} (hd : decode y.2.1 pc = .ok (.idiv, 1)) (hne : ¬ z = 0) (kk : mm_W y d mc ms (pc + 1) lv (.int (x / z) :: st) sh M k n Q) : mm_W y d mc ms pc lv (.int z :: .int x :: st) sh M k n Q :=
  fun b aT D p l e s m args below meth c H locs ls X hP hz hS hl => lv_idiv X.1 X.2.1 hd hne (kk b aT D p l e s m args below meth c H locs ls X hP hz hS hl)
theorem mm_irem {x z : Int32} (hd : decode y.2.1 pc = .ok (.irem, 1)) (hne : ¬ z = 0) (kk : mm_W y d mc ms (pc + 1) lv (.int (x - x / z * z) :: st) sh M k n Q) : mm_W y d mc ms pc lv (.int z :: .int x :: st) sh M k n Q :=
  fun b aT D p l e s m args below meth c H locs ls X hP hz hS hl => lv_irem X.1 X.2.1 hd hne (kk b aT D p l e s m args below meth c H locs ls X hP hz hS hl)
theorem mm_iushr {x z v : Int32} (hd : decode y.2.1 pc = .ok (.iushr, 1)) (hv : (x.toUInt32 >>> (z.toUInt32 &&& Int32.toUInt32 31)).toInt32 = v) (kk : mm_W y d mc ms (pc + 1) lv (.int v :: st) sh M k n Q) : mm_W y d mc ms pc lv (.int z :: .int x :: st) sh M k n Q :=
  fun b aT D p l e s m args below meth c H locs ls X hP hz hS hl => lv_iushr X.1 X.2.1 hd hv (kk b aT D p l e s m args below meth c H locs ls X hP hz hS hl)
theorem mm_ineg {x : Int32} (hd : decode y.2.1 pc = .ok (.ineg, 1)) (kk : mm_W y d mc ms (pc + 1) lv (.int (-x) :: st) sh M k n Q) : mm_W y d mc ms pc lv (.int x :: st) sh M k n Q :=
  fun b aT D p l e s m args below meth c H locs ls X hP hz hS hl => lv_ineg X.1 X.2.1 hd (kk b aT D p l e s m args below meth c H locs ls X hP hz hS hl)
theorem mm_ladd {x z : Int64} (hd : decode y.2.1 pc = .ok (.ladd, 1)) (kk : mm_W y d mc ms (pc + 1) lv (.long (x + z) :: st) sh M k n Q) : mm_W y d mc ms pc lv (.long z :: .long x :: st) sh M k n Q :=
  fun b aT D p l e s m args below meth c H locs ls X hP hz hS hl => lv_ladd X.1 X.2.1 hd (kk b aT D p l e s m args below meth c H locs ls X hP hz hS hl)
theorem mm_lsub {x z : Int64} (hd : decode y.2.1 pc = .ok (.lsub, 1)) (kk : mm_W y d mc ms (pc + 1) lv (.long (x - z) :: st) sh M k n Q) : mm_W y d mc ms pc lv (.long z :: .long x :: st) sh M k n Q :=
  fun b aT D p l e s m args below meth c H locs ls X hP hz hS hl => lv_lsub X.1 X.2.1 hd (kk b aT D p l e s m args below meth c H locs ls X hP hz hS hl)
theorem mm_lmul {x z : Int64} (hd : decode y.2.1 pc = .ok (.lmul, 1)) (kk : mm_W y d mc ms (pc + 1) lv (.long (x * z) :: st) sh M k n Q) : mm_W y d mc ms pc lv (.long z :: .long x :: st) sh M k n Q :=
  fun b aT D p l e s m args below meth c H locs ls X hP hz hS hl => lv_lmul X.1 X.2.1 hd (kk b aT D p l e s m args below meth c H locs ls X hP hz hS hl)
theorem mm_land {x z : Int64} (hd : decode y.2.1 pc = .ok (.land, 1)) (kk : mm_W y d mc ms (pc + 1) lv (.long (x &&& z) :: st) sh M k n Q) : mm_W y d mc ms pc lv (.long z :: .long x :: st) sh M k n Q :=
  fun b aT D p l e s m args below meth c H locs ls X hP hz hS hl => lv_land X.1 X.2.1 hd (kk b aT D p l e s m args below meth c H locs ls X hP hz hS hl)
theorem mm_lor {x z : Int64} (hd : decode y.2.1 pc = .ok (.lor, 1)) (kk : mm_W y d mc ms (pc + 1) lv (.long (x ||| z) :: st) sh M k n Q) : mm_W y d mc ms pc lv (.long z :: .long x :: st) sh M k n Q :=
  fun b aT D p l e s m args below meth c H locs ls X hP hz hS hl => lv_lor X.1 X.2.1 hd (kk b aT D p l e s m args below meth c H locs ls X hP hz hS hl)
theorem mm_lxor {x z : Int64} (hd : decode y.2.1 pc = .ok (.lxor, 1)) (kk : mm_W y d mc ms (pc + 1) lv (.long (x ^^^ z) :: st) sh M k n Q) : mm_W y d mc ms pc lv (.long z :: .long x :: st) sh M k n Q :=
  fun b aT D p l e s m args below meth c H locs ls X hP hz hS hl => lv_lxor X.1 X.2.1 hd (kk b aT D p l e s m args below meth c H locs ls X hP hz hS hl)
theorem mm_ldiv {x z : Int64} (hd : decode y.2.1 pc = .ok (.ldiv, 1)) (hne : ¬ z = 0) (kk : mm_W y d mc ms (pc + 1) lv (.long (x / z) :: st) sh M k n Q) : mm_W y d mc ms pc lv (.long z :: .long x :: st) sh M k n Q :=
  fun b aT D p l e s m args below meth c H locs ls X hP hz hS hl => lv_ldiv X.1 X.2.1 hd hne (kk b aT D p l e s m args below meth c H locs ls X hP hz hS hl)
theorem mm_lrem {x z : Int64} (hd : decode y.2.1 pc = .ok (.lrem, 1)) (hne : ¬ z = 0) (kk : mm_W y d mc ms (pc + 1) lv (.long (x - x / z * z) :: st) sh M k n Q) : mm_W y d mc ms pc lv (.long z :: .long x :: st) sh M k n Q :=
  fun b aT D p l e s m args below meth c H locs ls X hP hz hS hl => lv_lrem X.1 X.2.1 hd hne (kk b aT D p l e s m args below meth c H locs ls X hP hz hS hl)
theorem mm_lshl {x v : Int64} {z : Int32} (hd : decode y.2.1 pc = .ok (.lshl, 1)) (hv : x <<< (z.toInt64 &&& 63) = v) (kk : mm_W y d mc ms (pc + 1) lv (.long v :: st) sh M k n Q) : mm_W y d mc ms pc lv (.int z :: .long x :: st) sh M k n Q :=
  fun b aT D p l e s m args below meth c H locs ls X hP hz hS hl => lv_lshl X.1 X.2.1 hd hv (kk b aT D p l e s m args below meth c H locs ls X hP hz hS hl)
theorem mm_lshr {x v : Int64} {z : Int32} (hd : decode y.2.1 pc = .ok (.lshr, 1)) (hv : x >>> (z.toInt64 &&& 63) = v) (kk : mm_W y d mc ms (pc + 1) lv (.long v :: st) sh M k n Q) : mm_W y d mc ms pc lv (.int z :: .long x :: st) sh M k n Q :=
  fun b aT D p l e s m args below meth c H locs ls X hP hz hS hl => lv_lshr X.1 X.2.1 hd hv (kk b aT D p l e s m args below meth c H locs ls X hP hz hS hl)
theorem mm_i2l {x : Int32} (hd : decode y.2.1 pc = .ok (.i2l, 1)) (kk : mm_W y d mc ms (pc + 1) lv (.long (x.toInt64) :: st) sh M k n Q) : mm_W y d mc ms pc lv (.int x :: st) sh M k n Q :=
  fun b aT D p l e s m args below meth c H locs ls X hP hz hS hl => lv_i2l X.1 X.2.1 hd rfl (kk b aT D p l e s m args below meth c H locs ls X hP hz hS hl)
theorem mm_l2i {x : Int64} (hd : decode y.2.1 pc = .ok (.l2i, 1)) (kk : mm_W y d mc ms (pc + 1) lv (.int (x.toInt32) :: st) sh M k n Q) : mm_W y d mc ms pc lv (.long x :: st) sh M k n Q :=
  fun b aT D p l e s m args below meth c H locs ls X hP hz hS hl => lv_l2i X.1 X.2.1 hd rfl (kk b aT D p l e s m args below meth c H locs ls X hP hz hS hl)
theorem mm_i2c {x : Int32} (hd : decode y.2.1 pc = .ok (.i2c, 1)) (kk : mm_W y d mc ms (pc + 1) lv (.int ((x.toUInt32 % 65536).toInt32) :: st) sh M k n Q) : mm_W y d mc ms pc lv (.int x :: st) sh M k n Q :=
  fun b aT D p l e s m args below meth c H locs ls X hP hz hS hl => lv_i2c X.1 X.2.1 hd rfl (kk b aT D p l e s m args below meth c H locs ls X hP hz hS hl)
theorem mm_lcmp {x z : Int64} (hd : decode y.2.1 pc = .ok (.lcmp, 1)) (kk : mm_W y d mc ms (pc + 1) lv (.int (lg_cmp x z) :: st) sh M k n Q) : mm_W y d mc ms pc lv (.long z :: .long x :: st) sh M k n Q :=
  fun b aT D p l e s m args below meth c H locs ls X hP hz hS hl => W.lcmp X.1 X.2.1 hd (kk b aT D p l e s m args below meth c H locs ls X hP hz hS hl)
theorem mm_dup {v : Value} (hd : decode y.2.1 pc = .ok (.dup, 1)) (hv : v.category = 1) (kk : mm_W y d mc ms (pc + 1) lv (v :: v :: st) sh M k n Q) : mm_W y d mc ms pc lv (v :: st) sh M k n Q :=
  fun b aT D p l e s m args below meth c H locs ls X hP hz hS hl => lv_dup X.1 X.2.1 hd (by rw [mm_v_cat]; exact hv) (kk b aT D p l e s m args below meth c H locs ls X hP hz hS hl)
theorem mm_pop {v : Value} (hd : decode y.2.1 pc = .ok (.pop, 1)) (hv : v.category = 1) (kk : mm_W y d mc ms (pc + 1) lv (st) sh M k n Q) : mm_W y d mc ms pc lv (v :: st) sh M k n Q :=
  fun b aT D p l e s m args below meth c H locs ls X hP hz hS hl => lv_pop X.1 X.2.1 hd (by rw [mm_v_cat]; exact hv) (kk b aT D p l e s m args below meth c H locs ls X hP hz hS hl)
theorem mm_dup2 {v u : Value} (hd : decode y.2.1 pc = .ok (.dup2, 1)) (hv : v.category = 1) (hu : u.category = 1) (kk : mm_W y d mc ms (pc + 1) lv (v :: u :: v :: u :: st) sh M k n Q) : mm_W y d mc ms pc lv (v :: u :: st) sh M k n Q :=
  fun b aT D p l e s m args below meth c H locs ls X hP hz hS hl => lv_dup2_11 X.1 X.2.1 hd (by rw [mm_v_cat]; exact hv) (by rw [mm_v_cat]; exact hu) (kk b aT D p l e s m args below meth c H locs ls X hP hz hS hl)
theorem mm_dup_x1 {v u : Value} (hd : decode y.2.1 pc = .ok (.dup_x1, 1)) (hv : v.category = 1) (hu : u.category = 1) (kk : mm_W y d mc ms (pc + 1) lv (v :: u :: v :: st) sh M k n Q) : mm_W y d mc ms pc lv (v :: u :: st) sh M k n Q :=
  fun b aT D p l e s m args below meth c H locs ls X hP hz hS hl => lv_dup_x1 X.1 X.2.1 hd (by rw [mm_v_cat]; exact hv) (by rw [mm_v_cat]; exact hu) (kk b aT D p l e s m args below meth c H locs ls X hP hz hS hl)
theorem mm_if_eq {x : Int32} {off : Int} {tgt : Nat} (hd : decode y.2.1 pc = .ok (.ifCond .eq off, 3)) (ht : (pc : Int) + off = (tgt : Int)) (kt : x = 0 → mm_W y d mc ms tgt lv st sh M k n Q) (kf : ¬ x = 0 → mm_W y d mc ms (pc + 3) lv st sh M k n Q) : mm_W y d mc ms pc lv (.int x :: st) sh M k n Q :=
  fun b aT D p l e s m args below meth c H locs ls X hP hz hS hl => lv_if_eq X.1 X.2.1 hd ht (fun h => kt h b aT D p l e s m args below meth c H locs ls X hP hz hS hl) (fun h => kf h b aT D p l e s m args below meth c H locs ls X hP hz hS hl)
theorem mm_icmp_eq {x z : Int32} {off : Int} {tgt : Nat} (hd : decode y.2.1 pc = .ok (.if_icmp .eq off, 3)) (ht : (pc : Int) + off = (tgt : Int)) (kt : x = z → mm_W y d mc ms tgt lv st sh M k n Q) (kf : ¬ x = z → mm_W y d mc ms (pc + 3) lv st sh M k n Q) : mm_W y d mc ms pc lv (.int z :: .int x :: st) sh M k n Q :=
  fun b aT D p l e s m args below meth c H locs ls X hP hz hS hl => lv_icmp_eq X.1 X.2.1 hd ht (fun h => kt h b aT D p l e s m args below meth c H locs ls X hP hz hS hl) (fun h => kf h b aT D p l e s m args below meth c H locs ls X hP hz hS hl)
theorem mm_if_ne {x : Int32} {off : Int} {tgt : Nat} (hd : decode y.2.1 pc = .ok (.ifCond .ne off, 3)) (ht : (pc : Int) + off = (tgt : Int)) (kt : ¬ x = 0 → mm_W y d mc ms tgt lv st sh M k n Q) (kf : x = 0 → mm_W y d mc ms (pc + 3) lv st sh M k n Q) : mm_W y d mc ms pc lv (.int x :: st) sh M k n Q :=
  fun b aT D p l e s m args below meth c H locs ls X hP hz hS hl => lv_if_ne X.1 X.2.1 hd ht (fun h => kt h b aT D p l e s m args below meth c H locs ls X hP hz hS hl) (fun h => kf h b aT D p l e s m args below meth c H locs ls X hP hz hS hl)
theorem mm_icmp_ne {x z : Int32} {off : Int} {tgt : Nat} (hd : decode y.2.1 pc = .ok (.if_icmp .ne off, 3)) (ht : (pc : Int) + off = (tgt : Int)) (kt : ¬ x = z → mm_W y d mc ms tgt lv st sh M k n Q) (kf : x = z → mm_W y d mc ms (pc + 3) lv st sh M k n Q) : mm_W y d mc ms pc lv (.int z :: .int x :: st) sh M k n Q :=
  fun b aT D p l e s m args below meth c H locs ls X hP hz hS hl => lv_icmp_ne X.1 X.2.1 hd ht (fun h => kt h b aT D p l e s m args below meth c H locs ls X hP hz hS hl) (fun h => kf h b aT D p l e s m args below meth c H locs ls X hP hz hS hl)
theorem mm_if_lt {x : Int32} {off : Int} {tgt : Nat} (hd : decode y.2.1 pc = .ok (.ifCond .lt off, 3)) (ht : (pc : Int) + off = (tgt : Int)) (kt : x < 0 → mm_W y d mc ms tgt lv st sh M k n Q) (kf : ¬ x < 0 → mm_W y d mc ms (pc + 3) lv st sh M k n Q) : mm_W y d mc ms pc lv (.int x :: st) sh M k n Q :=
  fun b aT D p l e s m args below meth c H locs ls X hP hz hS hl => lv_if_lt X.1 X.2.1 hd ht (fun h => kt h b aT D p l e s m args below meth c H locs ls X hP hz hS hl) (fun h => kf h b aT D p l e s m args below meth c H locs ls X hP hz hS hl)
theorem mm_icmp_lt {x z : Int32} {off : Int} {tgt : Nat} (hd : decode y.2.1 pc = .ok (.if_icmp .lt off, 3)) (ht : (pc : Int) + off = (tgt : Int)) (kt : x < z → mm_W y d mc ms tgt lv st sh M k n Q) (kf : ¬ x < z → mm_W y d mc ms (pc + 3) lv st sh M k n Q) : mm_W y d mc ms pc lv (.int z :: .int x :: st) sh M k n Q :=
  fun b aT D p l e s m args below meth c H locs ls X hP hz hS hl => lv_icmp_lt X.1 X.2.1 hd ht (fun h => kt h b aT D p l e s m args below meth c H locs ls X hP hz hS hl) (fun h => kf h b aT D p l e s m args below meth c H locs ls X hP hz hS hl)
theorem mm_if_ge {x : Int32} {off : Int} {tgt : Nat} (hd : decode y.2.1 pc = .ok (.ifCond .ge off, 3)) (ht : (pc : Int) + off = (tgt : Int)) (kt : 0 ≤ x → mm_W y d mc ms tgt lv st sh M k n Q) (kf : ¬ 0 ≤ x → mm_W y d mc ms (pc + 3) lv st sh M k n Q) : mm_W y d mc ms pc lv (.int x :: st) sh M k n Q :=
  fun b aT D p l e s m args below meth c H locs ls X hP hz hS hl => lv_if_ge X.1 X.2.1 hd ht (fun h => kt h b aT D p l e s m args below meth c H locs ls X hP hz hS hl) (fun h => kf h b aT D p l e s m args below meth c H locs ls X hP hz hS hl)
theorem mm_icmp_ge {x z : Int32} {off : Int} {tgt : Nat} (hd : decode y.2.1 pc = .ok (.if_icmp .ge off, 3)) (ht : (pc : Int) + off = (tgt : Int)) (kt : z ≤ x → mm_W y d mc ms tgt lv st sh M k n Q) (kf : ¬ z ≤ x → mm_W y d mc ms (pc + 3) lv st sh M k n Q) : mm_W y d mc ms pc lv (.int z :: .int x :: st) sh M k n Q :=
  fun b aT D p l e s m args below meth c H locs ls X hP hz hS hl => lv_icmp_ge X.1 X.2.1 hd ht (fun h => kt h b aT D p l e s m args below meth c H locs ls X hP hz hS hl) (fun h => kf h b aT D p l e s m args below meth c H locs ls X hP hz hS hl)
theorem mm_if_gt {x : Int32} {off : Int} {tgt : Nat} (hd : decode y.2.1 pc = .ok (.ifCond .gt off, 3)) (ht : (pc : Int) + off = (tgt : Int)) (kt : 0 < x → mm_W y d mc ms tgt lv st sh M k n Q) (kf : ¬ 0 < x → mm_W y d mc ms (pc + 3) lv st sh M k n Q) : mm_W y d mc ms pc lv (.int x :: st) sh M k n Q :=
  fun b aT D p l e s m args below meth c H locs ls X hP hz hS hl => lv_if_gt X.1 X.2.1 hd ht (fun h => kt h b aT D p l e s m args below meth c H locs ls X hP hz hS hl) (fun h => kf h b aT D p l e s m args below meth c H locs ls X hP hz hS hl)
theorem mm_icmp_gt {x z : Int32} {off : Int} {tgt : Nat} (hd : decode y.2.1 pc = .ok (.if_icmp .gt off, 3)) (ht : (pc : Int) + off = (tgt : Int)) (kt : z < x → mm_W y d mc ms tgt lv st sh M k n Q) (kf : ¬ z < x → mm_W y d mc ms (pc + 3) lv st sh M k n Q) : mm_W y d mc ms pc lv (.int z :: .int x :: st) sh M k n Q :=
  fun b aT D p l e s m args below meth c H locs ls X hP hz hS hl => lv_icmp_gt X.1 X.2.1 hd ht (fun h => kt h b aT D p l e s m args below meth c H locs ls X hP hz hS hl) (fun h => kf h b aT D p l e s m args below meth c H locs ls X hP hz hS hl)
theorem mm_if_le {x : Int32} {off : Int} {tgt : Nat} (hd : decode y.2.1 pc = .ok (.ifCond .le off, 3)) (ht : (pc : Int) + off = (tgt : Int)) (kt : x ≤ 0 → mm_W y d mc ms tgt lv st sh M k n Q) (kf : ¬ x ≤ 0 → mm_W y d mc ms (pc + 3) lv st sh M k n Q) : mm_W y d mc ms pc lv (.int x :: st) sh M k n Q :=
  fun b aT D p l e s m args below meth c H locs ls X hP hz hS hl => lv_if_le X.1 X.2.1 hd ht (fun h => kt h b aT D p l e s m args below meth c H locs ls X hP hz hS hl) (fun h => kf h b aT D p l e s m args below meth c H locs ls X hP hz hS hl)
theorem mm_icmp_le {x z : Int32} {off : Int} {tgt : Nat} (hd : decode y.2.1 pc = .ok (.if_icmp .le off, 3)) (ht : (pc : Int) + off = (tgt : Int)) (kt : x ≤ z → mm_W y d mc ms tgt lv st sh M k n Q) (kf : ¬ x ≤ z → mm_W y d mc ms (pc + 3) lv st sh M k n Q) : mm_W y d mc ms pc lv (.int z :: .int x :: st) sh M k n Q :=
  fun b aT D p l e s m args below meth c H locs ls X hP hz hS hl => lv_icmp_le X.1 X.2.1 hd ht (fun h => kt h b aT D p l e s m args below meth c H locs ls X hP hz hS hl) (fun h => kf h b aT D p l e s m args below meth c H locs ls X hP hz hS hl)
theorem mm_goto {off : Int} {tgt : Nat} (hd : decode y.2.1 pc = .ok (.goto off, 3)) (ht : (pc : Int) + off = (tgt : Int)) (kk : mm_W y d mc ms tgt lv st sh M k n Q) : mm_W y d mc ms pc lv st sh M k n Q :=
  fun b aT D p l e s m args below meth c H locs ls X hP hz hS hl => lv_goto X.1 X.2.1 hd ht (kk b aT D p l e s m args below meth c H locs ls X hP hz hS hl)
theorem mm_ifnull {a : Nat} {off : Int} (hd : decode y.2.1 pc = .ok (.ifnull off, 3)) (kk : mm_W y d mc ms (pc + 3) lv st sh M k n Q) : mm_W y d mc ms pc lv (.ref a :: st) sh M k n Q :=
  fun b aT D p l e s m args below meth c H locs ls X hP hz hS hl => lv_ifnull X.1 X.2.1 hd (kk b aT D p l e s m args below meth c H locs ls X hP hz hS hl)
theorem mm_ifnonnull {a : Nat} {off : Int} {tgt : Nat} (hd : decode y.2.1 pc = .ok (.ifnonnull off, 3)) (ht : (pc : Int) + off = (tgt : Int)) (kk : mm_W y d mc ms tgt lv st sh M k n Q) : mm_W y d mc ms pc lv (.ref a :: st) sh M k n Q :=
  fun b aT D p l e s m args below meth c H locs ls X hP hz hS hl => lv_ifnonnull X.1 X.2.1 hd ht (kk b aT D p l e s m args below meth c H locs ls X hP hz hS hl)
theorem mm_lookup {dflt : Int} {ps : Array (Int × Int)} {len : Nat} {x : Int32} {off : Int} {tgt : Nat} (hd : decode y.2.1 pc = .ok (.lookupswitch dflt ps, len)) (hp : (ps.toList.zip (ps.toList.drop 1)).all (fun (a, next) => a.1 < next.1) = true) (ho : Op.lookupswitch.offset ps.toList dflt x.toInt = off) (ht : (pc : Int) + off = (tgt : Int)) (kk : mm_W y d mc ms tgt lv st sh M k n Q) : mm_W y d mc ms pc lv (.int x :: st) sh M k n Q :=
  fun b aT D p l e s m args below meth c H locs ls X hP hz hS hl => lv_lookup X.1 X.2.1 hd hp ho ht (kk b aT D p l e s m args below meth c H locs ls X hP hz hS hl)
theorem mm_tableOut {dflt lo hi : Int} {offs : Array Int} {len : Nat} {x : Int32} {tgt : Nat} (hd : decode y.2.1 pc = .ok (.tableswitch dflt lo hi offs, len)) (h : x.toInt < lo ∨ hi < x.toInt) (ht : (pc : Int) + dflt = (tgt : Int)) (kk : mm_W y d mc ms tgt lv st sh M k n Q) : mm_W y d mc ms pc lv (.int x :: st) sh M k n Q :=
  fun b aT D p l e s m args below meth c H locs ls X hP hz hS hl => lv_tableOut X.1 X.2.1 hd h ht (kk b aT D p l e s m args below meth c H locs ls X hP hz hS hl)
theorem mm_tableIn {dflt lo hi : Int} {offs : Array Int} {len : Nat} {x : Int32} {off : Int} {tgt : Nat} (hd : decode y.2.1 pc = .ok (.tableswitch dflt lo hi offs, len)) (h1 : ¬ x.toInt < lo) (h2 : ¬ hi < x.toInt) (ho : offs[(x.toInt - lo).toNat]? = some off) (ht : (pc : Int) + off = (tgt : Int)) (kk : mm_W y d mc ms tgt lv st sh M k n Q) : mm_W y d mc ms pc lv (.int x :: st) sh M k n Q :=
  fun b aT D p l e s m args below meth c H locs ls X hP hz hS hl => lv_tableIn X.1 X.2.1 hd h1 h2 ho ht (kk b aT D p l e s m args below meth c H locs ls X hP hz hS hl)
end MMA
