/-! fields -/
/-- entry idx of class own's pool names field j (of N) of class ci -/
def mm_F (own : String) (idx ci j N : Nat) : Prop := ∃ (C : String) (T : u_T), vwCl[ci]? = some (C, T, N) ∧ j < N ∧ Cond.fieldLink own idx (T j).1 (T j).2.1 (T j).2.2.1 ∈ mm_ws ∧ (T j).1 = C
section MMF
variable {y : mm_Y} {d mc ms pc : Nat} {lv lv' : List (Nat × Value)} {st : List Value} {sh : mm_S} {M : mm_M} {k n : Nat} {Q : Option Value → mm_S → mm_M → Prop}
theorem mm_getV {a ci N j idx : Nat} {v : Value} (hd : decode y.2.1 pc = .ok (.getfield idx, 3)) (hF : mm_F y.1.cls idx ci j N) (hsh : sh[a]? = some (ci + 5, N)) (hv : ∀ b, mm_fv b M a j (mm_kd (mm_ty ci j)) = mm_v b v) (kk : mm_W y d mc ms (pc + 3) lv (v :: st) sh M k n Q) : mm_W y d mc ms pc lv (.ref a :: st) sh M k n Q := by
  intro b aT D p l e s m args below meth c H locs ls X hP hz hS hl
  obtain ⟨C, T, hc, hj, hlk, -⟩ := hF
  obtain ⟨hin, -, -⟩ := mm_cls hc
  exact va_get (D := D) (ci := ci) (v := mm_v b v) (C := C) (T := T) (N := N) X.1 X.2.1 X.2.2.2.2.1 hin X.2.2.2.1 X.2.2.2.2.2.2.2.2.1.1 hP a (mm_w_at hsh) hc j hj (X.2.2.2.2.1 _ hlk) (fun _ h => h) (by rw [mm_fs_at hj, hv]) hd (kk b aT D p l e s m args below meth c H locs ls X hP hz hS hl)
theorem mm_getI {a ci N j idx : Nat} (hd : decode y.2.1 pc = .ok (.getfield idx, 3)) (hF : mm_F y.1.cls idx ci j N) (hsh : sh[a]? = some (ci + 5, N)) (hk : mm_kd (mm_ty ci j) = 0) (kk : mm_W y d mc ms (pc + 3) lv (.int (M.1 a j) :: st) sh M k n Q) : mm_W y d mc ms pc lv (.ref a :: st) sh M k n Q :=
  mm_getV hd hF hsh (fun b => by rw [hk]; rfl) kk
theorem mm_getL {a ci N j idx : Nat} (hd : decode y.2.1 pc = .ok (.getfield idx, 3)) (hF : mm_F y.1.cls idx ci j N) (hsh : sh[a]? = some (ci + 5, N)) (hk : mm_kd (mm_ty ci j) = 1) (kk : mm_W y d mc ms (pc + 3) lv (.long (M.2.1 a j) :: st) sh M k n Q) : mm_W y d mc ms pc lv (.ref a :: st) sh M k n Q :=
  mm_getV hd hF hsh (fun b => by rw [hk]; rfl) kk
theorem mm_getR {a ci N j idx r : Nat} (hd : decode y.2.1 pc = .ok (.getfield idx, 3)) (hF : mm_F y.1.cls idx ci j N) (hsh : sh[a]? = some (ci + 5, N)) (hk : mm_kd (mm_ty ci j) = 2) (hr : M.2.2 a j = some r) (kk : mm_W y d mc ms (pc + 3) lv (.ref r :: st) sh M k n Q) : mm_W y d mc ms pc lv (.ref a :: st) sh M k n Q :=
  mm_getV hd hF hsh (fun b => by rw [hk]; show va_rf ((M.2.2 a j).map (b + ·)) = _; rw [hr]; rfl) kk
/-- a field is written; in a constructor a final one too -/
theorem mm_putV {a ci N j idx : Nat} {v : Value} {M' : mm_M} (hd : decode y.2.1 pc = .ok (.putfield idx, 3)) (hF : mm_F y.1.cls idx ci j N) (hsh : sh[a]? = some (ci + 5, N)) (hfin : ∀ (C : String) (T : u_T), vwCl[ci]? = some (C, T, N) → (T j).2.2.2 = false ∨ ((T j).2.2.2 = true ∧ y.1.name = "<init>" ∧ C = y.1.cls))
    (hn : ∀ b, narrow (mm_ty ci j) (mm_v b v) = mm_v b v) (hfit : ∀ b, fits (mm_ty ci j) (mm_v b v) = true) (h0 : ∀ b, mm_fv b M' a j (mm_kd (mm_ty ci j)) = mm_v b v) (h1 : ∀ b i kd, i ≠ j → mm_fv b M' a i kd = mm_fv b M a i kd) (ho : ∀ i, i ≠ a → M'.1 i = M.1 i ∧ M'.2.1 i = M.2.1 i ∧ M'.2.2 i = M.2.2 i)
    (kk : mm_W y d mc ms (pc + 3) lv st sh M' k n Q) : mm_W y d mc ms pc lv (v :: .ref a :: st) sh M k n Q := by
  intro b aT D p l e s m args below meth c H locs ls X hP hz hS hl
  obtain ⟨C, T, hc, hj, hlk, hdc⟩ := hF
  obtain ⟨hin, hty, hnm⟩ := mm_cls hc
  have hts := X.2.2.2.2.1
  have hown := X.2.2.2.1
  have hK := X.2.2.2.2.2.2.2.2.1.1
  have hset : ((List.range N).map (fun i => mm_fv b M a i (mm_kd (mm_ty ci i)))).set j (mm_v b v) = (List.range N).map (fun i => mm_fv b M' a i (mm_kd (mm_ty ci i))) := mm_fs hj (h0 b) (fun i hi => h1 b i _ hi)
  have hlen : j < ((List.range N).map (fun i => mm_fv b M a i (mm_kd (mm_ty ci i)))).length := by simpa using hj
  have he : (mm_w b aT sh M)[a]? = some (b + a, .inr (ci, (List.range N).map (fun i => mm_fv b M a i (mm_kd (mm_ty ci i))))) := mm_w_at hsh
  have hap := va_apart (own := y.1.cls) hts hin (mm_ty ci) hty hnm hK hc
  obtain ⟨r, g1, cell, q1, q2, q3, q4⟩ := hP a _ he
  have hr : r = (C, T, N) := Option.some.inj (g1.symm.trans hc)
  subst hr
  obtain ⟨hSl, hfc, kC, hkC, hkind⟩ := hK.1 ci _ hc
  obtain ⟨cf, kf, fi, f, hi, hsl⟩ := hSl j hj
  have hlay := hts _ (hin _ (u_in_lay hj))
  have hst := (u_facts hfc hkC (u_lays hts hin hj) hi).1
  have fin : ∀ (H1 : Heap), H1[b + a]? = some (cell.setSlot f.slot (mm_v b v)) → H1.size = H.size → (∀ q, q ≠ b + a → H1[q]? = H[q]?) → W p l e (mm_R d mc ms) s m args below meth c H1 (locs ++ [⟨b + a, f.slot⟩]) k n (MQ below (mm_Qc b aT D Q) args s mc ms (fun q => b ≤ q)) (F0 m (pc + 3) ls (st.map (mm_v b))) := by
    intro H1 e1 e2 e3
    rw [hsl] at e1 ⊢
    have hP1 := hP.set (A := fun q => b ≤ q) mm_D he (e := .inr (ci, ((List.range N).map (fun i => mm_fv b M a i (mm_kd (mm_ty ci i)))).set j (mm_v b v))) ⟨_, hc, t_OB.to (V := updV (vp_V ((List.range N).map (fun i => mm_fv b M a i (mm_kd (mm_ty ci i))))) j (mm_v b v)) ⟨_, e1, q2, q3, t_set q4 hap hj (mm_v b v)⟩ (fun i _ => vp_updV_set hlen (mm_v b v) i)⟩ e3
    exact kk b aT D p l e s m args below meth c H1 _ ls X (mm_P_set hP1 hsh (by rw [hset]; rfl) ho) (by rw [e2]; exact hz) (hS.put e2 e3 (Nat.le_add_right b a)) hl
  rcases hfin C T hc with hf | ⟨hf, hnm2, hC⟩
  · unfold u_lay at hlay
    rw [if_neg (by rw [hf]; decide)] at hlay
    have h6 := u_store hfc hkC hkind hlay hi (hty j hj) (hn b) (hfit b)
    exact W.putK X.1 X.2.1 (f := f) ⟨hown, hts _ hlk, ⟨_, _, _, hi⟩, hst⟩ (by rw [q2]; exact h6) q1 q3 (by rw [hsl]; exact k2_hasslot (q4 j hj)) rfl rfl hd fin
  · unfold u_lay at hlay
    rw [if_pos hf] at hlay
    have hcf : m.cls = cf := by
      obtain ⟨_, _, c', _, _, _, -, -, hf', -, -, -, hown2, -⟩ := Cond.laysFinal_spec hlay
      have e1 : c' = cf := by have := hi.symm.trans hf'; simp at this; exact this.1.symm
      have hd2 : (T j).1 = y.1.cls := hdc.trans hC
      rw [hd2] at hown2
      rw [← e1]; exact Option.some.inj (hown.symm.trans hown2)
    have h6 := u_fits hfc hkC hkind (Or.inr hlay) hi (hty j hj) (hn b) (hfit b)
    exact W.putFinK X.1 X.2.1 hown (hts _ hlk) hi hst hcf (X.2.2.2.2.2.2.2.1.trans hnm2) (by rw [q2]; exact h6) q1 q3 (by rw [hsl]; exact k2_hasslot (q4 j hj)) rfl rfl hd fin
/-- may field j of class ci be written by y -/
def mm_fin (y : mm_Y) (ci j : Nat) : Bool := match vwCl[ci]? with
  | some r => !(r.2.1 j).2.2.2 || (y.1.name == "<init>" && r.1 == y.1.cls)
  | none => false
theorem mm_fin_of {ci j N : Nat} (h : mm_fin y ci j = true) : ∀ (C : String) (T : u_T), vwCl[ci]? = some (C, T, N) → (T j).2.2.2 = false ∨ ((T j).2.2.2 = true ∧ y.1.name = "<init>" ∧ C = y.1.cls) := by
  intro C T hc
  unfold mm_fin at h
  rw [hc] at h
  cases hb : (T j).2.2.2 with
  | false => exact Or.inl rfl
  | true =>
    simp only [hb, Bool.not_true, Bool.false_or, Bool.and_eq_true, beq_iff_eq] at h
    exact Or.inr ⟨rfl, h.1, h.2⟩
theorem mm_putI {a ci N j idx : Nat} {x : Int32} (hd : decode y.2.1 pc = .ok (.putfield idx, 3)) (hF : mm_F y.1.cls idx ci j N) (hsh : sh[a]? = some (ci + 5, N)) (hfin : mm_fin y ci j = true) (hk : mm_kd (mm_ty ci j) = 0) (hn : narrow (mm_ty ci j) (.int x) = .int x) (hfit : fits (mm_ty ci j) (.int x) = true)
    (kk : mm_W y d mc ms (pc + 3) lv st sh (mm_uI M a j x) k n Q) : mm_W y d mc ms pc lv (.int x :: .ref a :: st) sh M k n Q :=
  mm_putV hd hF hsh (mm_fin_of hfin) (fun _ => hn) (fun _ => hfit) (fun b => by rw [hk]; simp [mm_fv, mm_uI, va_up, upd, mm_v]) (fun _ _ _ h => mm_fv_up h) mm_oI kk
theorem mm_putL {a ci N j idx : Nat} {x : Int64} (hd : decode y.2.1 pc = .ok (.putfield idx, 3)) (hF : mm_F y.1.cls idx ci j N) (hsh : sh[a]? = some (ci + 5, N)) (hfin : mm_fin y ci j = true) (hty : mm_ty ci j = .long)
    (kk : mm_W y d mc ms (pc + 3) lv st sh (mm_uL M a j x) k n Q) : mm_W y d mc ms pc lv (.long x :: .ref a :: st) sh M k n Q :=
  mm_putV hd hF hsh (mm_fin_of hfin) (fun _ => by rw [hty]; rfl) (fun _ => by rw [hty]; rfl) (fun b => by rw [hty]; simp [mm_kd, mm_fv, mm_uL, va_up, vp_updL, mm_v]) (fun _ _ _ h => mm_fv_upL h) mm_oL kk
theorem mm_putR {a ci N j idx r : Nat} (hd : decode y.2.1 pc = .ok (.putfield idx, 3)) (hF : mm_F y.1.cls idx ci j N) (hsh : sh[a]? = some (ci + 5, N)) (hfin : mm_fin y ci j = true) (hk : mm_kd (mm_ty ci j) = 2)
    (kk : mm_W y d mc ms (pc + 3) lv st sh (mm_uR M a j (some r)) k n Q) : mm_W y d mc ms pc lv (.ref r :: .ref a :: st) sh M k n Q :=
  mm_putV hd hF hsh (mm_fin_of hfin) (fun b => by cases h : mm_ty ci j <;> rw [h] at hk <;> first | rfl | (simp [mm_kd] at hk)) (fun b => by cases h : mm_ty ci j <;> rw [h] at hk <;> first | rfl | (simp [mm_kd] at hk)) (fun b => by rw [hk]; simp [mm_fv, mm_uR, va_up, mm_v, va_rf]) (fun _ _ _ h => mm_fv_upR h) mm_oR kk
/-! arrays -/
theorem mm_iaload {a N : Nat} {i : Int32} (hd : decode y.2.1 pc = .ok (.iaload, 1)) (hsh : sh[a]? = some (0, N)) (hin : vp_in i N) (kk : mm_W y d mc ms (pc + 1) lv (.int (M.1 a i.toNatClampNeg) :: st) sh M k n Q) : mm_W y d mc ms pc lv (.int i :: .ref a :: st) sh M k n Q :=
  fun b aT D p l e s m args below meth c H locs ls X hP hz hS hl => va_iald X.1 X.2.1 X.2.2.2.2.2.2.2.2.1.1 hP a 0 (mm_w_at hsh) rfl hin hd (kk b aT D p l e s m args below meth c H locs ls X hP hz hS hl)
theorem mm_laload {a N : Nat} {i : Int32} (hd : decode y.2.1 pc = .ok (.laload, 1)) (hsh : sh[a]? = some (1, N)) (hin : vp_in i N) (kk : mm_W y d mc ms (pc + 1) lv (.long (M.2.1 a i.toNatClampNeg) :: st) sh M k n Q) : mm_W y d mc ms pc lv (.int i :: .ref a :: st) sh M k n Q :=
  fun b aT D p l e s m args below meth c H locs ls X hP hz hS hl => va_lald X.1 X.2.1 X.2.2.2.2.2.2.2.2.1.1 hP a 1 (mm_w_at hsh) rfl hin hd (kk b aT D p l e s m args below meth c H locs ls X hP hz hS hl)
theorem mm_caload {a N : Nat} {i : Int32} (hd : decode y.2.1 pc = .ok (.caload, 1)) (hsh : sh[a]? = some (2, N)) (hin : vp_in i N) (kk : mm_W y d mc ms (pc + 1) lv (.int (M.1 a i.toNatClampNeg) :: st) sh M k n Q) : mm_W y d mc ms pc lv (.int i :: .ref a :: st) sh M k n Q :=
  fun b aT D p l e s m args below meth c H locs ls X hP hz hS hl => va_cald X.1 X.2.1 X.2.2.2.2.2.2.2.2.1.1 hP a 2 (mm_w_at hsh) rfl hin hd (kk b aT D p l e s m args below meth c H locs ls X hP hz hS hl)
theorem mm_zaload {a N : Nat} {i : Int32} (hd : decode y.2.1 pc = .ok (.baload, 1)) (hsh : sh[a]? = some (3, N)) (hin : vp_in i N) (kk : mm_W y d mc ms (pc + 1) lv (.int (M.1 a i.toNatClampNeg) :: st) sh M k n Q) : mm_W y d mc ms pc lv (.int i :: .ref a :: st) sh M k n Q :=
  fun b aT D p l e s m args below meth c H locs ls X hP hz hS hl => va_zald X.1 X.2.1 X.2.2.2.2.2.2.2.2.1.1 hP a 3 (mm_w_at hsh) rfl hin hd (kk b aT D p l e s m args below meth c H locs ls X hP hz hS hl)
theorem mm_aaload {a N r : Nat} {i : Int32} (hd : decode y.2.1 pc = .ok (.aaload, 1)) (hsh : sh[a]? = some (4, N)) (hin : vp_in i N) (hr : M.2.2 a i.toNatClampNeg = some r) (kk : mm_W y d mc ms (pc + 1) lv (.ref r :: st) sh M k n Q) : mm_W y d mc ms pc lv (.int i :: .ref a :: st) sh M k n Q := by
  intro b aT D p l e s m args below meth c H locs ls X hP hz hS hl
  refine va_aldq X.1 X.2.1 X.2.2.2.2.2.2.2.2.1.1 hP a 4 (mm_w_at hsh) rfl hin hd ?_
  have hk := kk b aT D p l e s m args below meth c H locs ls X hP hz hS hl
  simp only [hr]
  exact hk
theorem mm_alen {a N t : Nat} (hd : decode y.2.1 pc = .ok (.arraylength, 1)) (hsh : sh[a]? = some (t, N)) (ht : t < 5) (kk : mm_W y d mc ms (pc + 1) lv (.int (nI N) :: st) sh M k n Q) : mm_W y d mc ms pc lv (.ref a :: st) sh M k n Q := by
  intro b aT D p l e s m args below meth c H locs ls X hP hz hS hl
  have hK := X.2.2.2.2.2.2.2.2.1.1
  have hk := kk b aT D p l e s m args below meth c H locs ls X hP hz hS hl
  match t, ht, hsh with
  | 0, _, hsh => exact va_alen X.1 X.2.1 hK hP a 0 (mm_w_at hsh) rfl rfl hd hk
  | 1, _, hsh => exact va_alen X.1 X.2.1 hK hP a 1 (mm_w_at hsh) rfl rfl hd hk
  | 2, _, hsh => exact va_alen X.1 X.2.1 hK hP a 2 (mm_w_at hsh) rfl rfl hd hk
  | 3, _, hsh => exact va_alen X.1 X.2.1 hK hP a 3 (mm_w_at hsh) rfl rfl hd hk
  | 4, _, hsh => exact va_alen X.1 X.2.1 hK hP a 4 (mm_w_at hsh) rfl rfl hd hk
theorem mm_iastore {a N : Nat} {i : Int32} {x : Int32} (hd : decode y.2.1 pc = .ok (.iastore, 1)) (hsh : sh[a]? = some (0, N)) (hin : vp_in i N) (kk : mm_W y d mc ms (pc + 1) lv st sh (mm_uI M a i.toNatClampNeg x) k n Q) : mm_W y d mc ms pc lv (.int x :: .int i :: .ref a :: st) sh M k n Q := by
  intro b aT D p l e s m args below meth c H locs ls X hP hz hS hl
  have ha : (mm_w b aT sh M)[a]? = some (b + a, mm_c b aT M a (0, N)) := mm_w_at hsh
  refine W.iast X.1 X.2.1 (hP a _ ha) ((X.2.2.2.2.2.2.2.2.1.1.2 0 _ rfl).1 N (fun j => .int (M.1 a j))) (fun q => by cases q) (by show ¬ (i < 0 ∨ (arrV _ _ _).slots.size ≤ _); rw [arrV_size]; exact hin) rfl rfl hd fun H1 e1 z oq => ?_
  refine kk b aT D p l e s m args below meth c H1 _ ls X (mm_P_set (M := M) (e := mm_c b aT (mm_uI M a i.toNatClampNeg x) a (0, N)) (hP.set (A := fun q => b ≤ q) mm_D ha ?_ oq) hsh rfl mm_oI) (by rw [z]; exact hz) (hS.put z oq (Nat.le_add_right b a)) hl
  show H1[b + a]? = some (vp_cell _ _)
  rw [e1]
  simp only [mm_c]
  rw [vp_cell_i, vp_cell_i, arrV_store]
  congr 2
  funext q
  by_cases hq : q = i.toNatClampNeg
  · subst hq
    simp [updV, mm_uI, va_up, upd]
    try rfl
  · simp [updV, mm_uI, va_up, upd, hq]
theorem mm_lastore {a N : Nat} {i : Int32} {x : Int64} (hd : decode y.2.1 pc = .ok (.lastore, 1)) (hsh : sh[a]? = some (1, N)) (hin : vp_in i N) (kk : mm_W y d mc ms (pc + 1) lv st sh (mm_uL M a i.toNatClampNeg x) k n Q) : mm_W y d mc ms pc lv (.long x :: .int i :: .ref a :: st) sh M k n Q := by
  intro b aT D p l e s m args below meth c H locs ls X hP hz hS hl
  have ha : (mm_w b aT sh M)[a]? = some (b + a, mm_c b aT M a (1, N)) := mm_w_at hsh
  refine W.last X.1 X.2.1 (hP a _ ha) ((X.2.2.2.2.2.2.2.2.1.1.2 1 _ rfl).1 N (fun j => .long (M.2.1 a j))) (fun q => by cases q) (by show ¬ (i < 0 ∨ (arrV _ _ _).slots.size ≤ _); rw [arrV_size]; exact hin) rfl rfl hd fun H1 e1 z oq => ?_
  refine kk b aT D p l e s m args below meth c H1 _ ls X (mm_P_set (M := M) (e := mm_c b aT (mm_uL M a i.toNatClampNeg x) a (1, N)) (hP.set (A := fun q => b ≤ q) mm_D ha ?_ oq) hsh rfl mm_oL) (by rw [z]; exact hz) (hS.put z oq (Nat.le_add_right b a)) hl
  show H1[b + a]? = some (vp_cell _ _)
  rw [e1]
  simp only [mm_c]
  rw [vp_cell_l, vp_cell_l, arrV_store]
  congr 2
  funext q
  by_cases hq : q = i.toNatClampNeg
  · subst hq
    simp [updV, mm_uL, va_up, vp_updL]
    try rfl
  · simp [updV, mm_uL, va_up, vp_updL, hq]
theorem mm_castore {a N : Nat} {i : Int32} {x : Int32} (hd : decode y.2.1 pc = .ok (.castore, 1)) (hsh : sh[a]? = some (2, N)) (hin : vp_in i N) (kk : mm_W y d mc ms (pc + 1) lv st sh (mm_uI M a i.toNatClampNeg (vp_nar .char x)) k n Q) : mm_W y d mc ms pc lv (.int x :: .int i :: .ref a :: st) sh M k n Q := by
  intro b aT D p l e s m args below meth c H locs ls X hP hz hS hl
  have ha : (mm_w b aT sh M)[a]? = some (b + a, mm_c b aT M a (2, N)) := mm_w_at hsh
  refine W.cast X.1 X.2.1 (hP a _ ha) ((X.2.2.2.2.2.2.2.2.1.1.2 2 _ rfl).1 N (fun j => .int (M.1 a j))) (fun q => by cases q) (by show ¬ (i < 0 ∨ (arrV _ _ _).slots.size ≤ _); rw [arrV_size]; exact hin) rfl rfl hd fun H1 e1 z oq => ?_
  refine kk b aT D p l e s m args below meth c H1 _ ls X (mm_P_set (M := M) (e := mm_c b aT (mm_uI M a i.toNatClampNeg (vp_nar .char x)) a (2, N)) (hP.set (A := fun q => b ≤ q) mm_D ha ?_ oq) hsh rfl mm_oI) (by rw [z]; exact hz) (hS.put z oq (Nat.le_add_right b a)) hl
  show H1[b + a]? = some (vp_cell _ _)
  rw [e1]
  simp only [mm_c]
  rw [vp_cell_i, vp_cell_i, arrV_store]
  congr 2
  funext q
  by_cases hq : q = i.toNatClampNeg
  · subst hq
    simp [updV, mm_uI, va_up, upd, vp_nar]
    try rfl
  · simp [updV, mm_uI, va_up, upd, vp_nar, hq]
theorem mm_zastore {a N : Nat} {i : Int32} {x : Int32} (hd : decode y.2.1 pc = .ok (.bastore, 1)) (hsh : sh[a]? = some (3, N)) (hin : vp_in i N) (kk : mm_W y d mc ms (pc + 1) lv st sh (mm_uI M a i.toNatClampNeg (vp_nar .boolean x)) k n Q) : mm_W y d mc ms pc lv (.int x :: .int i :: .ref a :: st) sh M k n Q := by
  intro b aT D p l e s m args below meth c H locs ls X hP hz hS hl
  have ha : (mm_w b aT sh M)[a]? = some (b + a, mm_c b aT M a (3, N)) := mm_w_at hsh
  refine W.zast X.1 X.2.1 (hP a _ ha) ((X.2.2.2.2.2.2.2.2.1.1.2 3 _ rfl).1 N (fun j => .int (M.1 a j))) (fun q => by cases q) (by show ¬ (i < 0 ∨ (arrV _ _ _).slots.size ≤ _); rw [arrV_size]; exact hin) rfl rfl hd fun H1 e1 z oq => ?_
  refine kk b aT D p l e s m args below meth c H1 _ ls X (mm_P_set (M := M) (e := mm_c b aT (mm_uI M a i.toNatClampNeg (vp_nar .boolean x)) a (3, N)) (hP.set (A := fun q => b ≤ q) mm_D ha ?_ oq) hsh rfl mm_oI) (by rw [z]; exact hz) (hS.put z oq (Nat.le_add_right b a)) hl
  show H1[b + a]? = some (vp_cell _ _)
  rw [e1]
  simp only [mm_c]
  rw [vp_cell_i, vp_cell_i, arrV_store]
  congr 2
  funext q
  by_cases hq : q = i.toNatClampNeg
  · subst hq
    simp [updV, mm_uI, va_up, upd, vp_nar]
    try rfl
  · simp [updV, mm_uI, va_up, upd, vp_nar, hq]
end MMF
