/-! ===== the class reads a question ===== -/
/-- a question: its kind (0 first .. 5 least), where it ends, its codes -/
def askOk (T : dT) (kd q' : Nat) (C : List Nat) : Prop := wdn T (rn T isBl 0) = nI (24 + kd) ∧ tkk T q' = 0 ∧ ((kd < 3 ∧ tss T 3 (4, nxt T (rn T isBl 0), [], [], 0) (7, q', C, [], 0)) ∨ (3 ≤ kd ∧ kd < 6 ∧ str T 3 (0, nxt T (rn T isBl 0), [], [], 0) (3, q', C, [], 0)))
def askX (T : dT) (k p : Nat) : Prop := ((∀ kd, kd < 6 → wdn T (rn T isBl 0) ≠ nI (24 + kd)) ∧ k = 1 ∧ p = rn T isBl 0) ∨ ∃ kd, wdn T (rn T isBl 0) = nI (24 + kd) ∧ ((kd < 3 ∧ (tss T 3 (4, nxt T (rn T isBl 0), [], [], 0) (xC k p) ∨ ∃ q' C, tss T 3 (4, nxt T (rn T isBl 0), [], [], 0) (7, q', C, [], 0) ∧ tkk T q' ≠ 0 ∧ k = 1 ∧ p = q')) ∨ (3 ≤ kd ∧ kd < 6 ∧ (str T 3 (0, nxt T (rn T isBl 0), [], [], 0) (xC k p) ∨ ∃ q' C, str T 3 (0, nxt T (rn T isBl 0), [], [], 0) (3, q', C, [], 0) ∧ tkk T q' ≠ 0 ∧ k = 1 ∧ p = q')))
def wAs (c j : Nat) : Prop := c = 17 ∨ c = 20 ∨ (c = 16 ∧ j = 2)
theorem cX0_17 : cX0 17 20 := ⟨by decide, by decide +kernel, by decide, by decide⟩
theorem c_readQ {T : dT} {d : Nat} {x : Int32} {M : mm_M} {K : mm_M → Prop} (hG : mm_G M.2.2) (hn : T.2 ≤ 1600) (hx : x = nI T.2) (ht : ∀ j, j < T.2 → M.1 1 j = T.1 j)
    (h1 : ∀ (m : mm_M) (kd q' : Nat) (C : List Nat), offA wAs M m → mm_G m.2.2 → askOk T kd q' C → kd < 6 → cPs T 3 17 20 0 q' C 0 m → C.length ≤ 1600 → evp 3 44 (decide (kd < 3)) C → m.1 16 2 = nI (24 + kd) → K m)
    (h2 : ∀ (m : mm_M) (k p : Nat), offA wAs M m → mm_G m.2.2 → askX T k p → cXs 17 20 k p m → K m) : mm_CV mX0_read (d + 100) [.ref 16, .ref 1, .int x] M K := by
  have h0 := cX0_17
  refine rX0_read (n1 := 1600) (d := d + 99) (by decide +kernel) hG ?_
  have o0 : offM wAs M (mm_uI (mm_uI M 17 12 1) 17 11 221196) := offM_tr (offM_uI (Or.inl rfl)) (offM_uI (Or.inl rfl))
  have g11 : (mm_uI (mm_uI M 17 12 1) 17 11 221196).1 17 11 = msk 3 := uI_at _ _ _ _
  have g12 : (mm_uI (mm_uI M 17 12 1) 17 11 221196).1 17 12 = (if 3 = 3 then 1 else 0) := by rw [uI_j (by decide), uI_at]; rfl
  generalize mm_uI (mm_uI M 17 12 1) 17 11 221196 = m0 at o0 g11 g12 ⊢
  refine c_begin (T := T) (s := 0) (tk := 3) (d := d + 93) h0 (by rw [o0.2.2]; exact hG) hn hx (fun j hj => by rw [o0.1 _ _ (by unfold wAs; omega)]; exact ht j hj) g11 g12 (fun m1 o1 hG1 s1 => ?_)
  have hq : rn T isBl 0 ≤ T.2 := (rn_p (T := T) (P := isBl) (Nat.zero_le _)).2.1
  have hnx := nxt_b hq
  have o1' : offA wAs M m1 := offA_tr (offA_M o0) (offA_mono o1 (fun c j z => by unfold wBg at z; unfold wAs; omega))
  have eW := s1.2.1.2.2.1
  rw [uI_at, eW]
  -- the kind is noted
  have o2 : offM (fun c j => c = 16 ∧ j = 2) m1 (mm_uI m1 16 2 (wdn T (rn T isBl 0))) := offM_uI ⟨rfl, rfl⟩
  have g16 : (mm_uI m1 16 2 (wdn T (rn T isBl 0))).1 16 2 = wdn T (rn T isBl 0) := uI_at _ _ _ _
  have s2 : cPs T 3 17 20 0 (rn T isBl 0) [] 0 (mm_uI m1 16 2 (wdn T (rn T isBl 0))) := by
    obtain ⟨p1, p2, p3, p4, p5, p6, p7, p8, p9, p10⟩ := s1
    exact ⟨cTx_off p1 o2 (fun c j z => by omega), cTk_off p2 o2 (fun j _ _ z => by omega), by rw [o2.1 _ _ (by omega)]; exact p3, by rw [o2.1 _ _ (by omega)]; exact p4, by rw [o2.1 _ _ (by omega)]; exact p5, p6, by rw [o2.1 _ _ (by omega)]; exact p7, fun j c hc => (by cases hc), by rw [o2.1 _ _ (by omega)]; exact p9, by rw [o2.1 _ _ (by omega)]; exact p10⟩
  have hG2 : mm_G (mm_uI m1 16 2 (wdn T (rn T isBl 0))).2.2 := hG1
  have o2' : offA wAs M (mm_uI m1 16 2 (wdn T (rn T isBl 0))) := offA_tr o1' (offA_of o2 (fun c j z => by unfold wAs; omega))
  generalize mm_uI m1 16 2 (wdn T (rn T isBl 0)) = m2 at g16 s2 hG2 o2' ⊢
  have wOf' : ∀ m, offM (wPr 17 20) m2 m → offA wAs M m ∧ mm_G m.2.2 ∧ m.1 16 2 = wdn T (rn T isBl 0) := fun m o => ⟨offA_tr o2' (offA_of o (fun c j z => by unfold wPr at z; unfold wAs; omega)), by rw [o.2.2]; exact hG2, by rw [o.1 _ _ (by unfold wPr; omega)]; exact g16⟩
  -- behind the sum or test
  have fin : ∀ (kd q' : Nat) (C : List Nat) (m : mm_M), kd < 6 → wdn T (rn T isBl 0) = nI (24 + kd) → offM (wPr 17 20) m2 m → cPs T 3 17 20 0 q' C 0 m → q' ≤ T.2 → C.length ≤ q' → evp 3 44 (decide (kd < 3)) C → ((kd < 3 ∧ tss T 3 (4, nxt T (rn T isBl 0), [], [], 0) (7, q', C, [], 0)) ∨ (3 ≤ kd ∧ kd < 6 ∧ str T 3 (0, nxt T (rn T isBl 0), [], [], 0) (3, q', C, [], 0))) → (if (m.1 17 3) = 0 then (K m) else (mm_CV mX6_refuse (d + 99) [.ref 17, .int 1, .int (m.1 17 4)] m (fun m167 => K m167))) := fun kd q' C m hkd hw o s hq' hl hev hst => by
    obtain ⟨w1, w2, w3⟩ := wOf' m o
    rw [s.2.1.2.1, s.2.1.1]
    refine ite_go (fun z => h1 m kd q' C w1 w2 ⟨hw, z, hst⟩ hkd s (by omega) hev (by rw [w3, hw])) (fun z => c_refuseP (k := 1) (p := q') h0 w2 s (by omega) (by omega) (fun m3 o3 x3 => ?_))
    obtain ⟨y1, y2, y3⟩ := wOf' m3 (offM_tr o o3)
    refine h2 m3 1 q' y1 y2 (Or.inr ⟨kd, hw, ?_⟩) x3
    rcases hst with ⟨a1, a2⟩ | ⟨a1, a2, a3⟩
    · exact Or.inl ⟨a1, Or.inr ⟨q', C, a2, z, rfl, rfl⟩⟩
    · exact Or.inr ⟨a1, a2, Or.inr ⟨q', C, a3, z, rfl, rfl⟩⟩
  have finX : ∀ (kd k p : Nat) (m : mm_M), wdn T (rn T isBl 0) = nI (24 + kd) → offM (wPr 17 20) m2 m → cXs 17 20 k p m → ((kd < 3 ∧ tss T 3 (4, nxt T (rn T isBl 0), [], [], 0) (xC k p)) ∨ (3 ≤ kd ∧ kd < 6 ∧ str T 3 (0, nxt T (rn T isBl 0), [], [], 0) (xC k p))) → (if (m.1 17 3) = 0 then (K m) else (mm_CV mX6_refuse (d + 99) [.ref 17, .int 1, .int (m.1 17 4)] m (fun m167 => K m167))) := fun kd k p m hw o x hst => by
    obtain ⟨w1, w2, w3⟩ := wOf' m o
    have : K m := by
      refine h2 m k p w1 w2 (Or.inr ⟨kd, hw, ?_⟩) x
      rcases hst with ⟨a1, a2⟩ | ⟨a1, a2, a3⟩
      · exact Or.inl ⟨a1, Or.inl a2⟩
      · exact Or.inr ⟨a1, a2, Or.inl a3⟩
    exact ite_go (fun _ => this) (fun _ => c_refuseX h0 w2 x this)
  have l69 : ∀ kd : Nat, kd < 3 → wdn T (rn T isBl 0) = nI (24 + kd) → jX0_read_69 (d + 99) 1 1600 x m2 K := fun kd hkd hw => by
    refine lX0_read_69 (by decide +kernel) hG2 (c_nextP (d := d + 94) h0 hG2 s2 hq (fun m3 o3 s3 => ?_))
    refine (c_allT (T := T) (s := 0) h0 (by decide : 3 < 4) 6).2 (d + 99) _ [] 0 m3 _ (by omega) rfl (wOf' m3 o3).2.1 s3 (by show 0 + 0 ≤ _; omega) hnx.2.1 (fun m4 q' cs o4 s4 l1 l2 l3 r4 => ?_) (fun m4 k p o4 x4 r4 => finX kd k p m4 hw (offM_tr o3 o4) x4 (Or.inl ⟨hkd, r4 [] [] (fun v hv => by cases hv)⟩))
    obtain ⟨v1, v2, v3, c1, ms, rfl, v6, v7⟩ := r4
    refine fin kd q' (c1 ++ ms) m4 (by omega) hw (offM_tr o3 o4) s4 l2 (by omega) (by rw [decide_eq_true hkd]; exact evp_mono v1 (by omega)) (Or.inl ⟨hkd, tss_tr (v7 [] [] (fun v hv => by cases hv)) (tss_1 ?_)⟩)
    show _ = tsG T q' ([] ++ c1) (ms ++ []) 0
    have n25 : ¬ 25 ∈ ms := fun z => by
      have := v6 25 z
      exact absurd this (by decide)
    unfold tsG
    rw [List.append_nil, if_neg (fun z => n25 z.2), if_neg v2, if_neg v3, if_neg n25]
    rfl
  have l113 : ∀ kd : Nat, 3 ≤ kd → kd < 6 → wdn T (rn T isBl 0) = nI (24 + kd) → jX0_read_113 (d + 99) 1 1600 x m2 K := fun kd hk3 hk6 hw => by
    refine lX0_read_113 (by decide +kernel) hG2 (c_nextP (d := d + 94) h0 hG2 s2 hq (fun m3 o3 s3 => ?_))
    refine (c_all (T := T) (s := 0) h0 (by decide : 3 < 4) 6).2 (d + 99) _ [] 0 m3 _ (by omega) rfl (wOf' m3 o3).2.1 s3 (by show 0 + 0 ≤ _; omega) hnx.2.1 (fun m4 q' cs o4 s4 l1 l2 l3 r4 => ?_) (fun m4 k p o4 x4 r4 => finX kd k p m4 hw (offM_tr o3 o4) x4 (Or.inr ⟨hk3, hk6, r4 [] [] (fun v hv => by cases hv)⟩))
    obtain ⟨v1, v2, v3, v4, v5, c1, ms, rfl, v6, v7⟩ := r4
    refine fin kd q' (c1 ++ ms) m4 hk6 hw (offM_tr o3 o4) s4 l2 (by omega) (by rw [decide_eq_false (by omega)]; exact evp_mono v1 (by omega)) (Or.inr ⟨hk3, hk6, ?_⟩)
    have := v7 [] [] (fun v hv => by cases hv)
    rw [List.append_nil] at this
    exact str_tr this (str_1 (smG_end v6 ⟨v2, v3, v4, v5⟩))
  refine ite_go (fun z => l69 0 (by omega) z) (fun n0 => ite_go (fun z => l69 1 (by omega) z) (fun n1 => ite_go (fun z => l69 2 (by omega) z) (fun n2 => ite_go (fun z => l113 3 (by omega) (by omega) z) (fun n3 => ite_go (fun z => l113 4 (by omega) (by omega) z) (fun n4 => ite_go (fun z => l113 5 (by omega) (by omega) z) (fun n5 => ?_))))))
  rw [s2.2.1.1]
  refine c_refuseP (k := 1) (p := rn T isBl 0) h0 hG2 s2 (by omega) (by omega) (fun m3 o3 x3 => ?_)
  obtain ⟨w1, w2, w3⟩ := wOf' m3 o3
  have : K m3 := h2 m3 1 _ w1 w2 (Or.inl ⟨fun kd hkd => by
    match kd, hkd with
    | 0, _ => exact n0
    | 1, _ => exact n1
    | 2, _ => exact n2
    | 3, _ => exact n3
    | 4, _ => exact n4
    | 5, _ => exact n5, rfl, rfl⟩) x3
  exact ite_go (fun _ => this) (fun _ => c_refuseX h0 w2 x3 this)
