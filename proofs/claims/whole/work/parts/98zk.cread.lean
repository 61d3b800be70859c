/-! ===== the class reads a duchy ===== -/
def C0 : List Nat := [44, 41, 42, 1005, 8, 13]
theorem C0_d : ∀ k, k < 5 → ∀ j, j < (dfl k).length → (C0[([0, 1, 2, 0, 5] : List Nat).getD k 0 + j]?).map (fun c : Nat => tau (c : Int)) = (dfl k)[j]? := by decide +kernel
theorem c_clear {r d : Nat} {M : mm_M} {K : Int32 → mm_M → Prop} (hr : r ∈ mm_Rls) (hG : mm_G M.2.2) (hK : ∀ m, offM (fun c _ => r ≤ c ∧ c ≤ r + 7) M m → cDr r R0 C0 m → m.1 r 0 = 0 → (∀ (j c : Nat), C0[j]? = some c → (m.1 (r + 5) j).toInt = tau (c : Int)) → K 6 m) : mm_CI mX7_clear (d + 2) [.ref r] M K := by
  have hr' := Rl_at hr
  have hsh : mm_SH[r + 1]? = some (0, 42) ∧ mm_SH[r + 2]? = some (0, 7) ∧ mm_SH[r + 3]? = some (0, 7) ∧ mm_SH[r + 4]? = some (0, 64) := by
    rcases hr' with rfl | rfl
    · decide +kernel
    · decide +kernel
  refine rX7_clear hr hG ?_
  have o0 : offM (fun c j => c = r) M (mm_uI (mm_uI (mm_uI (mm_uI M r 0 0) r 1 0) r 2 0) r 3 0) := offM_tr (offM_tr (offM_tr (offM_uI rfl) (offM_uI rfl)) (offM_uI rfl)) (offM_uI rfl)
  have a0 : (mm_uI (mm_uI (mm_uI (mm_uI M r 0 0) r 1 0) r 2 0) r 3 0).1 r 0 = 0 := by rw [uI_j (by decide), uI_j (by decide), uI_j (by decide), uI_at]
  have a1 : (mm_uI (mm_uI (mm_uI (mm_uI M r 0 0) r 1 0) r 2 0) r 3 0).1 r 1 = 0 := by rw [uI_j (by decide), uI_j (by decide), uI_at]
  have a2 : (mm_uI (mm_uI (mm_uI (mm_uI M r 0 0) r 1 0) r 2 0) r 3 0).1 r 2 = 0 := by rw [uI_j (by decide), uI_at]
  have a3 : (mm_uI (mm_uI (mm_uI (mm_uI M r 0 0) r 1 0) r 2 0) r 3 0).1 r 3 = 0 := uI_at _ _ _ _
  generalize mm_uI (mm_uI (mm_uI (mm_uI M r 0 0) r 1 0) r 2 0) r 3 0 = m0 at o0 a0 a1 a2 a3 ⊢
  have hG0 : mm_G m0.2.2 := by rw [o0.2.2]; exact hG
  refine c_fill hsh.1 (by decide) hG0 (fun m1 o1 e1 => ?_)
  have hG1 : mm_G m1.2.2 := by rw [o1.2.2]; exact hG0
  refine c_fill hsh.2.1 (by decide) hG1 (fun m2 o2 e2 => ?_)
  have hG2 : mm_G m2.2.2 := by rw [o2.2.2]; exact hG1
  refine c_fill hsh.2.2.1 (by decide) hG2 (fun m3 o3 e3 => ?_)
  have hG3 : mm_G m3.2.2 := by rw [o3.2.2]; exact hG2
  refine c_fill hsh.2.2.2 (by decide) hG3 (fun m4 o4 e4 => ?_)
  have hG4 : mm_G m4.2.2 := by rw [o4.2.2]; exact hG3
  have t0 : (0 : Int32).toNatClampNeg = 0 := rfl
  have t1 : (1 : Int32).toNatClampNeg = 1 := rfl
  have t2 : (2 : Int32).toNatClampNeg = 2 := rfl
  have t3 : (3 : Int32).toNatClampNeg = 3 := rfl
  have t4 : (4 : Int32).toNatClampNeg = 4 := rfl
  have t5 : (5 : Int32).toNatClampNeg = 5 := rfl
  rw [t0, t1, t2, t3, t4, t5]
  have o5 : offM (fun c j => c = r + 5) m4 (mm_uI (mm_uI (mm_uI (mm_uI (mm_uI (mm_uI m4 (r + 5) 0 10006) (r + 5) 1 10003) (r + 5) 2 10014) (r + 5) 3 5) (r + 5) 4 (-6)) (r + 5) 5 1) := offM_tr (offM_tr (offM_tr (offM_tr (offM_tr (offM_uI rfl) (offM_uI rfl)) (offM_uI rfl)) (offM_uI rfl)) (offM_uI rfl)) (offM_uI rfl)
  have b0 : (mm_uI (mm_uI (mm_uI (mm_uI (mm_uI (mm_uI m4 (r + 5) 0 10006) (r + 5) 1 10003) (r + 5) 2 10014) (r + 5) 3 5) (r + 5) 4 (-6)) (r + 5) 5 1).1 (r + 5) 0 = 10006 := by rw [uI_j (by decide), uI_j (by decide), uI_j (by decide), uI_j (by decide), uI_j (by decide), uI_at]
  have b1 : (mm_uI (mm_uI (mm_uI (mm_uI (mm_uI (mm_uI m4 (r + 5) 0 10006) (r + 5) 1 10003) (r + 5) 2 10014) (r + 5) 3 5) (r + 5) 4 (-6)) (r + 5) 5 1).1 (r + 5) 1 = 10003 := by rw [uI_j (by decide), uI_j (by decide), uI_j (by decide), uI_j (by decide), uI_at]
  have b2 : (mm_uI (mm_uI (mm_uI (mm_uI (mm_uI (mm_uI m4 (r + 5) 0 10006) (r + 5) 1 10003) (r + 5) 2 10014) (r + 5) 3 5) (r + 5) 4 (-6)) (r + 5) 5 1).1 (r + 5) 2 = 10014 := by rw [uI_j (by decide), uI_j (by decide), uI_j (by decide), uI_at]
  have b3 : (mm_uI (mm_uI (mm_uI (mm_uI (mm_uI (mm_uI m4 (r + 5) 0 10006) (r + 5) 1 10003) (r + 5) 2 10014) (r + 5) 3 5) (r + 5) 4 (-6)) (r + 5) 5 1).1 (r + 5) 3 = 5 := by rw [uI_j (by decide), uI_j (by decide), uI_at]
  have b4 : (mm_uI (mm_uI (mm_uI (mm_uI (mm_uI (mm_uI m4 (r + 5) 0 10006) (r + 5) 1 10003) (r + 5) 2 10014) (r + 5) 3 5) (r + 5) 4 (-6)) (r + 5) 5 1).1 (r + 5) 4 = -6 := by rw [uI_j (by decide), uI_at]
  have b5 : (mm_uI (mm_uI (mm_uI (mm_uI (mm_uI (mm_uI m4 (r + 5) 0 10006) (r + 5) 1 10003) (r + 5) 2 10014) (r + 5) 3 5) (r + 5) 4 (-6)) (r + 5) 5 1).1 (r + 5) 5 = 1 := uI_at _ _ _ _
  generalize mm_uI (mm_uI (mm_uI (mm_uI (mm_uI (mm_uI m4 (r + 5) 0 10006) (r + 5) 1 10003) (r + 5) 2 10014) (r + 5) 3 5) (r + 5) 4 (-6)) (r + 5) 5 1 = m5 at o5 b0 b1 b2 b3 b4 b5 ⊢
  have hG5 : mm_G m5.2.2 := by rw [o5.2.2]; exact hG4
  refine c_place (k := 0) hr hG5 (by decide) (fun m6 o6 f6 g6 => ?_)
  have hG6 : mm_G m6.2.2 := by rw [o6.2.2]; exact hG5
  refine c_place (k := 1) hr hG6 (by decide) (fun m7 o7 f7 g7 => ?_)
  have hG7 : mm_G m7.2.2 := by rw [o7.2.2]; exact hG6
  refine c_place (k := 2) hr hG7 (by decide) (fun m8 o8 f8 g8 => ?_)
  have hG8 : mm_G m8.2.2 := by rw [o8.2.2]; exact hG7
  refine c_place (k := 3) hr hG8 (by decide) (fun m9 o9 f9 g9 => ?_)
  have hG9 : mm_G m9.2.2 := by rw [o9.2.2]; exact hG8
  refine c_place (k := 4) hr hG9 (by decide) (fun mA oA fA gA => ?_)
  have oP : offM (fun c j => c = r + 6 ∨ c = r + 7) m5 mA := offM_tr (offM_tr (offM_tr (offM_tr (offM_mono o6 (fun c j z => by omega)) (offM_mono o7 (fun c j z => by omega))) (offM_mono o8 (fun c j z => by omega))) (offM_mono o9 (fun c j z => by omega))) (offM_mono oA (fun c j z => by omega))
  have oF : offM (fun c j => c = r + 5 ∨ c = r + 6 ∨ c = r + 7) m4 mA := offM_tr (offM_mono o5 (fun c j z => by omega)) (offM_mono oP (fun c j z => by omega))
  refine hK mA ?_ ⟨?_, ?_, ⟨?_, fun h k hh => by have : h < 0 := hh; omega⟩, fun h hh => ?_, fun h hh => ?_, fun h k hh hk => ?_, fun k hk => ?_⟩ ?_ (fun j c hj => ?_)
  · exact offM_tr (offM_tr (offM_tr (offM_tr (offM_tr (offM_mono o0 (fun c j z => by omega)) (offM_mono o1 (fun c j z => by omega))) (offM_mono o2 (fun c j z => by omega))) (offM_mono o3 (fun c j z => by omega))) (offM_mono o4 (fun c j z => by omega))) (offM_mono oF (fun c j z => by omega))
  · rw [oF.1 _ _ (by omega), o4.1 _ _ (by omega), o3.1 _ _ (by omega), o2.1 _ _ (by omega), o1.1 _ _ (by omega)]; exact a1
  · rw [oF.1 _ _ (by omega), o4.1 _ _ (by omega), o3.1 _ _ (by omega), o2.1 _ _ (by omega), o1.1 _ _ (by omega)]; exact a3
  · rw [oF.1 _ _ (by omega), o4.1 _ _ (by omega), o3.1 _ _ (by omega), o2.1 _ _ (by omega), o1.1 _ _ (by omega)]; exact a2
  · rw [oF.1 _ _ (by omega), o4.1 _ _ (by omega), o3.1 _ _ (by omega)]; exact e2 h hh
  · rw [oF.1 _ _ (by omega), o4.1 _ _ (by omega)]; exact e3 h hh
  · rw [oF.1 _ _ (by omega)]; exact e4 _ (by omega)
  · have tab : ∀ (f e : Nat), mA.1 (r + 6) k = nI f → mA.1 (r + 7) k = nI e → f = ([0, 1, 2, 0, 5] : List Nat).getD k 0 → f + (dfl k).length = e → e ≤ 6 → ∃ f e : Nat, mA.1 (r + 6) k = nI f ∧ mA.1 (r + 7) k = nI e ∧ f + (codeT R0 k).length = e ∧ e ≤ C0.length ∧ ∀ j t, (codeT R0 k)[j]? = some t → ∃ c : Nat, C0[f + j]? = some c ∧ tau (c : Int) = t := fun f e h1 h2 h3 h4 h5 => by
      refine ⟨f, e, h1, h2, h4, h5, fun j t ht => ?_⟩
      have ht : (dfl k)[j]? = some t := ht
      have := C0_d k hk j (List.getElem?_eq_some_iff.mp ht).1
      rw [← h3, ht] at this
      obtain ⟨c, c1, c2⟩ := Option.map_eq_some_iff.mp this
      exact ⟨c, c1, c2⟩
    match k, hk, tab with
    | 0, _, tab => exact tab 0 1 (by rw [oA.1 _ _ (by omega), o9.1 _ _ (by omega), o8.1 _ _ (by omega), o7.1 _ _ (by omega)]; exact f6) (by rw [oA.1 _ _ (by omega), o9.1 _ _ (by omega), o8.1 _ _ (by omega), o7.1 _ _ (by omega)]; exact g6) rfl rfl (by decide)
    | 1, _, tab => exact tab 1 2 (by rw [oA.1 _ _ (by omega), o9.1 _ _ (by omega), o8.1 _ _ (by omega)]; exact f7) (by rw [oA.1 _ _ (by omega), o9.1 _ _ (by omega), o8.1 _ _ (by omega)]; exact g7) rfl rfl (by decide)
    | 2, _, tab => exact tab 2 5 (by rw [oA.1 _ _ (by omega), o9.1 _ _ (by omega)]; exact f8) (by rw [oA.1 _ _ (by omega), o9.1 _ _ (by omega)]; exact g8) rfl rfl (by decide)
    | 3, _, tab => exact tab 0 1 (by rw [oA.1 _ _ (by omega)]; exact f9) (by rw [oA.1 _ _ (by omega)]; exact g9) rfl rfl (by decide)
    | 4, _, tab => exact tab 5 6 fA gA rfl rfl (by decide)
  · rw [oF.1 _ _ (by omega), o4.1 _ _ (by omega), o3.1 _ _ (by omega), o2.1 _ _ (by omega), o1.1 _ _ (by omega)]; exact a0
  · rw [oP.1 _ _ (by omega)]
    have hl : j < 6 := (List.getElem?_eq_some_iff.mp hj).1
    match j, hl, hj with
    | 0, _, hj => rw [b0, ← Option.some.inj hj]; decide
    | 1, _, hj => rw [b1, ← Option.some.inj hj]; decide
    | 2, _, hj => rw [b2, ← Option.some.inj hj]; decide
    | 3, _, hj => rw [b3, ← Option.some.inj hj]; decide
    | 4, _, hj => rw [b4, ← Option.some.inj hj]; decide
    | 5, _, hj => rw [b5, ← Option.some.inj hj]; decide
def wRd (r c j : Nat) : Prop := (c = 5 ∧ j ≠ 12) ∨ (r ≤ c ∧ c ≤ r + 7) ∨ (c = 4 ∧ j = 2)
set_option maxHeartbeats 4000000 in
theorem c_read {T : dT} {r d : Nat} {x : Int32} {M : mm_M} {K : mm_M → Prop} (hr : r ∈ mm_Rls) (hG : mm_G M.2.2) (h4 : M.2.2 4 1 = some r) (hn : T.2 ≤ 1600) (hx : x = nI T.2) (ht : ∀ j, j < T.2 → M.1 1 j = T.1 j) (h12 : M.1 5 12 = 0)
    (h1 : ∀ (m : mm_M) (i q : Nat) (R : dR), offA (wRd r) M m → mm_G m.2.2 → txOk T i q R → cDs T r i q R m → K m)
    (h2 : ∀ (m : mm_M) (k p : Nat), offA (wRd r) M m → mm_G m.2.2 → txX T k p → cXs 5 (r + 5) k p m → K m) : mm_CV mX2_read (d + 100) [.ref 4, .ref 1, .int x] M K := by
  have hr' := Rl_at hr
  have h0 := cX0_5 hr
  have hs1 : mm_SH[1]? = some (0, 1600) := by decide +kernel
  have hq0 : rn T isBl 0 ≤ T.2 := (rn_p (T := T) (P := isBl) (Nat.zero_le _)).2.1
  have tr : ∀ m m', offA (wRd r) M m → mm_G m.2.2 → offM (wDc r) m m' → offA (wRd r) M m' ∧ mm_G m'.2.2 := fun m m' o hGm o' => ⟨offA_tr o (offA_of o' (fun c j z => by unfold wDc at z; unfold wRd; omega)), by rw [o'.2.2]; exact hGm⟩
  have r4 : ∀ m, offA (wRd r) M m → m.2.2 4 1 = some r := fun m o => by rw [o.2.2 _ _ (by unfold wRd; omega)]; exact h4
  -- with a fault
  have loopX : ∀ (i k p : Nat) (m : mm_M), 1 ≤ i → i ≤ 61 → offA (wRd r) M m → mm_G m.2.2 → cXs 5 (r + 5) k p m → m.1 r 0 = nI i → txX T k p → jX2_read_30 (d + 99) 1 1600 x m K (nI i) := fun i k p m i1 i2 o hGm hX hi ht => by
    have fin : ∃ q291 : Nat, m.2.2 4 1 = some q291 ∧ q291 ∈ mm_Rls ∧ if (m.1 q291 0) = 0 then (mm_CV mX6_refuse (d + 99) [.ref 5, .int 1, .int (m.1 5 1)] m (fun m312 => K m312)) else (K m) := ⟨r, r4 m o, hr, ineg (by rw [hi]; exact nI_n0 i1 (by omega)) (h2 m k p o hGm ht hX)⟩
    exact lX2_read_30 hs1 hGm (ite_go (fun _ => fin) (fun _ => ineg (X_n0 hX) fin))
  have signX : ∀ (i k p : Nat) (m : mm_M), i ≤ 60 → offA (wRd r) M m → mm_G m.2.2 → cXs 5 (r + 5) k p m → m.1 r 0 = nI i → txX T k p → mm_CV mX6_expectSign (d + 99) [.ref 5, .int 59] m (fun m268 => ∃ q272 : Nat, m268.2.2 4 1 = some q272 ∧ q272 ∈ mm_Rls ∧ jX2_read_30 (d + 99) 1 1600 x (mm_uI m268 q272 0 ((m268.1 q272 0) + 1)) K (nI i + 1)) := fun i k p m i2 o hGm hX hi ht => by
    refine c_expSignX (d := d + 98) h0 hGm hX ⟨r, r4 m o, hr, ?_⟩
    rw [hi, nI_1]
    have o' : offM (fun c j => c = r ∧ j = 0) m (mm_uI m r 0 (nI (i + 1))) := offM_uI ⟨rfl, rfl⟩
    obtain ⟨w1, w2⟩ := tr m _ o hGm (offM_mono o' (fun c j z => by unfold wDc; omega))
    exact loopX (i + 1) k p _ (by omega) (by omega) w1 w2 (cXs_off hX o' (fun c j z => by omega)) (uI_at _ _ _ _) ht
  have sign : ∀ (i q : Nat) (R : dR) (m : mm_M), i ≤ 60 → offA (wRd r) M m → mm_G m.2.2 → cDs T r i q R m → (isS T q 59 = true → ∀ m', offA (wRd r) M m' → mm_G m'.2.2 → cDs T r (i + 1) (nxt T q) R m' → jX2_read_30 (d + 99) 1 1600 x m' K (nI (i + 1))) → (isS T q 59 = false → txX T 1 q) → mm_CV mX6_expectSign (d + 99) [.ref 5, .int 59] m (fun m268 => ∃ q272 : Nat, m268.2.2 4 1 = some q272 ∧ q272 ∈ mm_Rls ∧ jX2_read_30 (d + 99) 1 1600 x (mm_uI m268 q272 0 ((m268.1 q272 0) + 1)) K (nI i + 1)) := fun i q R m i2 o hGm hD go no => by
    obtain ⟨⟨tk, P, htk, s, hP, hDr⟩, hi, ⟨b, hb, hb2, hb3⟩, -, hq⟩ := hD
    refine c_expSign (d := d + 93) h0 hGm s hq (fun hs m' o' s' => ?_) (fun hs m' o' x' => ?_)
    · obtain ⟨w1, w2⟩ := tr m m' o hGm (wPr_D o')
      refine ⟨r, r4 m' w1, hr, ?_⟩
      rw [o'.1 r 0 (by unfold wPr; omega), hi, nI_1]
      have o2 : offM (fun c j => c = r ∧ j = 0) m' (mm_uI m' r 0 (nI (i + 1))) := offM_uI ⟨rfl, rfl⟩
      have oo : offM (fun c j => wPr 5 (r + 5) c j ∨ (c = r ∧ j = 0)) m (mm_uI m' r 0 (nI (i + 1))) := offM_tr (offM_mono o' (fun c j z => Or.inl z)) (offM_mono o2 (fun c j z => Or.inr z))
      obtain ⟨y1, y2⟩ := tr m' _ w1 w2 (offM_mono o2 (fun c j z => by unfold wDc; omega))
      exact go hs _ y1 y2 ⟨⟨tk, P, htk, cPs_off s' o2 (fun c j z => by omega), hP, cDr_off hDr oo (fun c j z => by unfold wPr at z; omega)⟩, uI_at _ _ _ _, ⟨b, hb, by rw [oo.1 _ _ (by unfold wPr; omega)]; exact hb2, hb3⟩, r4 _ y1, (nxt_b hq).2.1⟩
    · obtain ⟨w1, w2⟩ := tr m m' o hGm (wPr_D o')
      refine ⟨r, r4 m' w1, hr, ?_⟩
      rw [o'.1 r 0 (by unfold wPr; omega), hi, nI_1]
      have o2 : offM (fun c j => c = r ∧ j = 0) m' (mm_uI m' r 0 (nI (i + 1))) := offM_uI ⟨rfl, rfl⟩
      obtain ⟨y1, y2⟩ := tr m' _ w1 w2 (offM_mono o2 (fun c j z => by unfold wDc; omega))
      exact loopX (i + 1) 1 q _ (by omega) (by omega) y1 y2 (cXs_off x' o2 (fun c j z => by omega)) (uI_at _ _ _ _) (no hs)
  have loop : ∀ (f i q : Nat) (R : dR) (m : mm_M), i + f = 59 → offA (wRd r) M m → mm_G m.2.2 → rch T (i + 1) q R → cDs T r (i + 1) q R m → jX2_read_30 (d + 99) 1 1600 x m K (nI (i + 1)) := by
    intro f
    induction f with
    | zero =>
      intro i q R m hi o hGm hrc hD
      obtain rfl : i = 59 := by omega
      obtain ⟨⟨tk, P, htk, s, hP, hDr⟩, hi0, hb, -, hq⟩ := id hD
      refine lX2_read_30 hs1 hGm (ineg (by decide) (ipos s.2.2.1 ?_))
      rw [s.2.1.2.1, s.2.1.1]
      refine ite_go (fun c0 => ⟨r, r4 m o, hr, ineg (by rw [hi0]; decide) (h1 m 60 q R o hGm ⟨hrc, c0, by omega⟩ hD)⟩) (fun c0 => ipos rfl (c_refuseP (k := 5) (p := q) h0 hGm s (by omega) (by omega) (fun m' o' x' => ?_)))
      obtain ⟨w1, w2⟩ := tr m m' o hGm (wPr_D o')
      exact signX 60 5 q m' (by omega) w1 w2 x' (by rw [o'.1 _ _ (by unfold wPr; omega)]; exact hi0) (Or.inr (Or.inr ⟨q, R, hrc, c0, rfl, rfl⟩))
    | succ f ih =>
      intro i q R m hi o hGm hrc hD
      have ih := fun q R m => ih (i + 1) q R m (by omega)
      have v := rch_v _ _ _ hrc
      obtain ⟨⟨tk, P, htk, s, hP, hDr⟩, hi0, hb, -, hq⟩ := id hD
      refine lX2_read_30 hs1 hGm (ineg (fun z => by have := i32_lt.mp z; rw [nI_toInt (by omega)] at this; have e60 : (60 : Int32).toInt = 60 := rfl; omega) (ipos s.2.2.1 ?_))
      rw [s.2.1.2.1, s.2.1.1, s.2.1.2.2.1]
      refine ite_go (fun c0 => ⟨r, r4 m o, hr, ineg (by rw [hi0]; exact nI_n0 (by omega) (by omega)) (h1 m (i + 1) q R o hGm ⟨hrc, c0, by omega⟩ hD)⟩) (fun c0 => ineg (fun z => ?_) (ineg (nI_n0 (by omega) (by omega)) ?_))
      · have := (nI_eq (a := i + 1) (b := 60) (by omega) (by decide)).mp z
        omega
      · have fin : ∀ z, stB T q R z → stK z (fun q' R' => ∀ m', offM (wDc r) m m' → cDs T r (i + 1) q' R' m' → mm_CV mX6_expectSign (d + 99) [.ref 5, .int 59] m' (fun m268 => ∃ q272 : Nat, m268.2.2 4 1 = some q272 ∧ q272 ∈ mm_Rls ∧ jX2_read_30 (d + 99) 1 1600 x (mm_uI m268 q272 0 ((m268.1 q272 0) + 1)) K (nI (i + 1) + 1))) (fun k p => ∀ m', offM (wDc r) m m' → cDx r (i + 1) k p m' → mm_CV mX6_expectSign (d + 99) [.ref 5, .int 59] m' (fun m268 => ∃ q272 : Nat, m268.2.2 4 1 = some q272 ∧ q272 ∈ mm_Rls ∧ jX2_read_30 (d + 99) 1 1600 x (mm_uI m268 q272 0 ((m268.1 q272 0) + 1)) K (nI (i + 1) + 1))) := fun z hz => by
          cases z with
          | inl y =>
            intro m' o' hD'
            obtain ⟨w1, w2⟩ := tr m m' o hGm o'
            refine sign (i + 1) y.1 y.2 m' (by omega) w1 w2 hD' (fun hs m2 o2 hG2 hD2 => ih _ _ m2 o2 hG2 ⟨q, R, _, hrc, c0, hz, ?_⟩ hD2) (fun hs => Or.inr (Or.inl ⟨i + 1, q, R, _, hrc, by omega, c0, hz, ?_⟩))
            · show enSg T y.1 y.2 = _
              unfold enSg
              rw [if_pos hs]
            · show enSg T y.1 y.2 = _
              unfold enSg
              rw [if_neg (by rw [hs]; decide)]
          | inr y =>
            intro m' o' hX'
            obtain ⟨w1, w2⟩ := tr m m' o hGm o'
            exact signX (i + 1) y.1 y.2 m' (by omega) w1 w2 hX'.1 hX'.2.1 (Or.inr (Or.inl ⟨i + 1, q, R, _, hrc, by omega, c0, hz, rfl⟩))
        have bad : (wdn T q ≠ 1 ∧ wdn T q ≠ 4 ∧ (∀ k, k < 5 → wdn T q ≠ nI (7 + k)) ∧ wdn T q ≠ 12) → mm_CV mX6_refuse (d + 99) [.ref 5, .int 1, .int (m.1 5 4)] m (fun m123 => mm_CV mX6_expectSign (d + 99) [.ref 5, .int 59] m123 (fun m268 => ∃ q272 : Nat, m268.2.2 4 1 = some q272 ∧ q272 ∈ mm_Rls ∧ jX2_read_30 (d + 99) 1 1600 x (mm_uI m268 q272 0 ((m268.1 q272 0) + 1)) K (nI (i + 1) + 1))) := fun hw => by
          have hz := fin (.inr (1, q)) (Or.inr (Or.inr (Or.inr (Or.inr ⟨hw, rfl⟩))))
          rw [s.2.1.1]
          exact c_refuseP (k := 1) (p := q) h0 hGm s (by omega) (by omega) (fun m' o' x' => hz m' (wPr_D o') ⟨x', by rw [o'.1 _ _ (by unfold wPr; omega)]; exact hi0, by rw [o'.2.2]; exact r4 m o⟩)
        have l213 : wdn T q ≠ 1 → wdn T q ≠ 4 → (∀ k, k < 5 → wdn T q ≠ nI (7 + k)) → jX2_read_213 (d + 99) 1 1600 x m K (nI (i + 1)) (wdn T q) := fun w1 w4 w7 => by
          refine lX2_read_213 hs1 hGm (ite_go (fun w12 => ?_) (fun w12 => bad ⟨w1, w4, w7, w12⟩))
          have hz := fin (famB T q R) (Or.inr (Or.inr (Or.inr (Or.inl ⟨w12, rfl⟩))))
          have n1 := nxt_b hq
          refine c_nextP (d := d + 94) h0 hGm s hq (fun m1 o1 s1 => ⟨r, by rw [o1.2.2]; exact r4 m o, hr, ?_⟩)
          have hG1 : mm_G m1.2.2 := by rw [o1.2.2]; exact hGm
          unfold famB numF at hz
          refine c_takeNum (lo := 0) (hi := 100) (d := d + 93) h0 hG1 s1 n1.2.1 (by omega) (by omega) (fun hu m2 o2 s2 => ?_) (fun k p hu m2 o2 x2 => ?_)
          · rw [hu] at hz
            have o12 := offM_tr o1 o2
            have o3 : offM (fun c j => c = r ∧ j = 3) m2 (mm_uI m2 r 3 (vlu T (nxt T q))) := offM_uI ⟨rfl, rfl⟩
            have g3 : (mm_uI m2 r 3 (vlu T (nxt T q))).1 r 3 = vlu T (nxt T q) := uI_at _ _ _ _
            generalize mm_uI m2 r 3 (vlu T (nxt T q)) = m3 at o3 g3 ⊢
            have oo : offM (fun c j => wPr 5 (r + 5) c j ∨ (c = r ∧ j = 3)) m m3 := offM_tr (offM_mono o12 (fun c j z => Or.inl z)) (offM_mono o3 (fun c j z => Or.inr z))
            refine hz m3 (offM_mono oo (fun c j z => by unfold wPr at z; unfold wDc; omega)) ⟨⟨tk, P, htk, cPs_off s2 o3 (fun c j z => by omega), hP, ?_⟩, by rw [oo.1 _ _ (by unfold wPr; omega)]; exact hi0, ?_, by rw [oo.2.2]; exact r4 m o, (nxt_b n1.2.1).2.1⟩
            · obtain ⟨d1, d2, d3, d4, d5, d6, d7⟩ := hDr
              refine ⟨by rw [oo.1 _ _ (by unfold wPr; omega)]; exact d1, g3, ⟨by rw [oo.1 _ _ (by unfold wPr; omega)]; exact d3.1, fun h k hh hk => by rw [oo.1 _ _ (by unfold wPr; omega)]; exact d3.2 h k hh hk⟩, fun h hh => by rw [oo.1 _ _ (by unfold wPr; omega)]; exact d4 h hh, fun h hh => by rw [oo.1 _ _ (by unfold wPr; omega)]; exact d5 h hh, fun h k hh hk => by rw [oo.1 _ _ (by unfold wPr; omega)]; exact d6 h k hh hk, fun k hk => ?_⟩
              obtain ⟨f, e, q1, q2, q3, q4, q5⟩ := d7 k hk
              exact ⟨f, e, by rw [oo.1 _ _ (by unfold wPr; omega)]; exact q1, by rw [oo.1 _ _ (by unfold wPr; omega)]; exact q2, q3, q4, q5⟩
            · obtain ⟨b, b1, b2, b3⟩ := hb
              exact ⟨b, b1, by rw [oo.1 _ _ (by unfold wPr; omega)]; exact b2, b3⟩
          · rw [hu] at hz
            have o12 := offM_tr o1 o2
            have o3 : offM (fun c j => c = r ∧ j = 3) m2 (mm_uI m2 r 3 0) := offM_uI ⟨rfl, rfl⟩
            have oo : offM (fun c j => wPr 5 (r + 5) c j ∨ (c = r ∧ j = 3)) m (mm_uI m2 r 3 0) := offM_tr (offM_mono o12 (fun c j z => Or.inl z)) (offM_mono o3 (fun c j z => Or.inr z))
            exact hz _ (offM_mono oo (fun c j z => by unfold wPr at z; unfold wDc; omega)) ⟨cXs_off x2 o3 (fun c j z => by omega), by rw [oo.1 _ _ (by unfold wPr; omega)]; exact hi0, by rw [oo.2.2]; exact r4 m o⟩
        have e7 : (7 : Int32).toInt = 7 := rfl
        have e11 : (11 : Int32).toInt = 11 := rfl
        have w7i : ∀ k, k < 5 → (nI (7 + k)).toInt = 7 + k := fun k hk => by rw [nI_toInt (by omega)]; omega
        refine ite_go (fun w0 => lX2_read_108 hs1 hGm (ineg (by decide) (bad ⟨by rw [w0]; decide, by rw [w0]; decide, fun k hk z => ?_, by rw [w0]; decide⟩))) (fun w0 => lX2_read_108 hs1 hGm (ipos rfl (ineg w0 (ite_go (fun w1 => c_house (d := d + 90) hr hGm hD v (fin _ (Or.inl ⟨w1, rfl⟩))) (fun w1 => ite_go (fun w4 => c_feud (d := d + 90) hr hGm hD v (fin _ (Or.inr (Or.inl ⟨w4, rfl⟩)))) (fun w4 => ite_go (fun c7 => l213 w1 w4 (fun k hk z => ?_)) (fun c7 => ite_go (fun c11 => l213 w1 w4 (fun k hk z => ?_)) (fun c11 => ?_))))))))
        · have := w7i k hk
          rw [← z, w0] at this
          have z0 : (0 : Int32).toInt = 0 := rfl
          omega
        · have := w7i k hk
          rw [← z] at this
          have := i32_lt.mp c7
          omega
        · have := w7i k hk
          rw [← z] at this
          have := i32_lt.mp c11
          omega
        · have c7 := mt i32_lt.mpr c7
          have c11 := mt i32_lt.mpr c11
          obtain ⟨k, hk, hw⟩ : ∃ k, k < 5 ∧ wdn T q = nI (7 + k) := ⟨(wdn T q).toInt.toNat - 7, by omega, by
            have := i32_nI (x := wdn T q) (by omega)
            rw [show 7 + ((wdn T q).toInt.toNat - 7) = (wdn T q).toInt.toNat by omega]; exact this⟩
          have ek : wdn T q - 7 = nI k := by
            rw [hw]
            have : nI (7 + k) - nI 7 = nI (7 + k - 7) := pk_sub (by omega)
            rw [show 7 + k - 7 = k by omega] at this
            exact this
          rw [ek]
          exact c_rule (d := d + 9) hr hGm hD v hk (fun z hz => fin z (Or.inr (Or.inr (Or.inl ⟨k, hk, hw, hz⟩))))
  refine rX2_read (n1 := 1600) hs1 hG ⟨r, h4, hr, r, h4, hr, ?_⟩
  have o1 : offM (fun c j => c = 4 ∧ j = 2) M (mm_uI M 4 2 0) := offM_uI ⟨rfl, rfl⟩
  have g1 : (mm_uI M 4 2 0).1 4 2 = nI 0 := uI_at _ _ _ _
  generalize mm_uI M 4 2 0 = m1 at o1 g1 ⊢
  have hG1 : mm_G m1.2.2 := by rw [o1.2.2]; exact hG
  refine c_clear (d := d + 97) hr hG1 (fun m2 o2 hDr hz0 hcd => ?_)
  have oo2 : offM (fun c j => (c = 4 ∧ j = 2) ∨ (r ≤ c ∧ c ≤ r + 7)) M m2 := offM_tr (offM_mono o1 (fun c j z => Or.inl z)) (offM_mono o2 (fun c j z => Or.inr z))
  have hG2 : mm_G m2.2.2 := by rw [o2.2.2]; exact hG1
  obtain ⟨tk, htk, hmk⟩ := msk_any (m2.1 5 11)
  refine c_begin (T := T) (s := 6) (tk := tk) (d := d + 93) h0 hG2 hn hx (fun j hj => by rw [oo2.1 _ _ (by omega)]; exact ht j hj) hmk.symm (by rw [if_neg htk, oo2.1 _ _ (by omega)]; exact h12) (fun m3 o3 hG3 s3 => ?_)
  have oo3 : offA (wRd r) M m3 := offA_tr (offA_of oo2 (fun c j z => by unfold wRd; omega)) (offA_mono o3 (fun c j z => by unfold wBg at z; unfold wRd; omega))
  have hDr3 : cDr r R0 C0 m3 := by
    obtain ⟨d1, d2, d3, d4, d5, d6, d7⟩ := hDr
    refine ⟨by rw [o3.1 _ _ (by unfold wBg; omega)]; exact d1, by rw [o3.1 _ _ (by unfold wBg; omega)]; exact d2, ⟨by rw [o3.1 _ _ (by unfold wBg; omega)]; exact d3.1, fun h k hh hk => by rw [o3.1 _ _ (by unfold wBg; omega)]; exact d3.2 h k hh hk⟩, fun h hh => by rw [o3.1 _ _ (by unfold wBg; omega)]; exact d4 h hh, fun h hh => by rw [o3.1 _ _ (by unfold wBg; omega)]; exact d5 h hh, fun h k hh hk => by rw [o3.1 _ _ (by unfold wBg; omega)]; exact d6 h k hh hk, fun k hk => ?_⟩
    obtain ⟨f, e, q1, q2, q3, q4, q5⟩ := d7 k hk
    exact ⟨f, e, by rw [o3.1 _ _ (by unfold wBg; omega)]; exact q1, by rw [o3.1 _ _ (by unfold wBg; omega)]; exact q2, q3, q4, q5⟩
  have s3' : cPs T tk 5 (r + 5) 0 (rn T isBl 0) C0 0 m3 := by
    obtain ⟨p1, p2, p3, p4, p5, p6, p7, p8, p9, p10⟩ := s3
    exact ⟨p1, p2, p3, p4, p5, p6, p7, fun j c hj => by rw [Nat.zero_add, o3.1 _ _ (by unfold wBg; omega)]; exact hcd j c hj, p9, p10⟩
  have hi3 : m3.1 r 0 = nI 0 := by rw [o3.1 _ _ (by unfold wBg; omega)]; exact hz0
  have h42 : m3.1 4 2 = nI 0 := by rw [o3.1 _ _ (by unfold wBg; omega), o2.1 _ _ (by omega)]; exact g1
  refine lX2_read_30 hs1 hG3 (ineg (by decide) (ipos s3'.2.2.1 ?_))
  rw [s3'.2.1.2.1, s3'.2.1.2.2.1]
  have n1 := nxt_b hq0
  have n2 := nxt_b n1.2.1
  refine ite_go (fun c0 => ⟨r, r4 m3 oo3, hr, ipos hi3 ?_⟩) (fun c0 => ineg (by decide) (ipos rfl ?_))
  · have eq : rn T isBl 0 = T.2 := by
      rcases tkk_c T (rn T isBl 0) with ⟨a1, a2, a3⟩ | ⟨a1, a2, a3, a4, a5⟩ | ⟨a1, a2, a3, a4, a5⟩ | ⟨a1, a2, a3, a4⟩
      · omega
      · rw [a1] at c0; exact absurd c0 (by decide)
      · rw [a1] at c0; exact absurd c0 (by decide)
      · rw [a1] at c0; exact absurd c0 (by decide)
    have hw : wdn T (rn T isBl 0) = -1 := by
      unfold wdn
      rw [if_neg (by rw [c0]; decide)]
    rw [s3'.1.1]
    refine c_refuseP (k := 1) (p := T.2) h0 hG3 s3' (by omega) hn (fun m' o' x' => ?_)
    obtain ⟨w1, w2⟩ := tr m3 m' oo3 hG3 (wPr_D o')
    refine h2 m' 1 T.2 w1 w2 (Or.inl ?_) x'
    show bindS T (wordF T 0 _ _) = _
    unfold wordF
    rw [if_neg (by rw [hw]; decide), ← eq]
    rfl
  · refine ite_go (fun w0 => lX2_read_108 hs1 hG3 (ipos rfl ?_)) (fun w0 => lX2_read_108 hs1 hG3 (ineg (by decide) ?_))
    · refine ipos w0 (c_nextP (d := d + 94) h0 hG3 s3' hq0 (fun m4 o4 s4 => ⟨r, by rw [o4.2.2]; exact r4 m3 oo3, hr, ?_⟩))
      have hG4 : mm_G m4.2.2 := by rw [o4.2.2]; exact hG3
      have eh : headB T = numF T 1 20 (nxt T (rn T isBl 0)) (.inl (nxt T (nxt T (rn T isBl 0)), (vlu T (nxt T (rn T isBl 0)), R0.2))) := by
        show wordF T 0 _ _ = _
        unfold wordF
        rw [if_pos w0]
      unfold numF at eh
      refine c_takeNum (lo := 1) (hi := 20) (d := d + 93) h0 hG4 s4 n1.2.1 (by omega) (by omega) (fun hu m5 o5 s5 => ?_) (fun k p hu m5 o5 x5 => ?_)
      · rw [hu] at eh
        have o45 := offM_tr o4 o5
        have o6 : offM (fun c j => c = r ∧ j = 1) m5 (mm_uI m5 r 1 (vlu T (nxt T (rn T isBl 0)))) := offM_uI ⟨rfl, rfl⟩
        have g6 : (mm_uI m5 r 1 (vlu T (nxt T (rn T isBl 0)))).1 r 1 = vlu T (nxt T (rn T isBl 0)) := uI_at _ _ _ _
        generalize mm_uI m5 r 1 (vlu T (nxt T (rn T isBl 0))) = m6 at o6 g6 ⊢
        have oo : offM (fun c j => wPr 5 (r + 5) c j ∨ (c = r ∧ j = 1)) m3 m6 := offM_tr (offM_mono o45 (fun c j z => Or.inl z)) (offM_mono o6 (fun c j z => Or.inr z))
        obtain ⟨w1, w2⟩ := tr m3 m6 oo3 hG3 (offM_mono oo (fun c j z => by unfold wPr at z; unfold wDc; omega))
        refine sign 0 (nxt T (nxt T (rn T isBl 0))) (vlu T (nxt T (rn T isBl 0)), R0.2) m6 (by omega) w1 w2 ⟨⟨tk, C0, htk, cPs_off s5 o6 (fun c j z => by omega), rfl, ?_⟩, by rw [oo.1 _ _ (by unfold wPr; omega)]; exact hi3, ⟨0, by decide, by rw [oo.1 _ _ (by unfold wPr; omega)]; exact h42, fun k hk => Nat.zero_testBit k⟩, r4 m6 w1, n2.2.1⟩ (fun hs m7 o7 hG7 hD7 => loop 59 0 _ _ m7 (by omega) o7 hG7 ?_ hD7) (fun hs => Or.inl ?_)
        · obtain ⟨d1, d2, d3, d4, d5, d6, d7⟩ := hDr3
          refine ⟨g6, by rw [oo.1 _ _ (by unfold wPr; omega)]; exact d2, ⟨by rw [oo.1 _ _ (by unfold wPr; omega)]; exact d3.1, fun h k hh hk => by rw [oo.1 _ _ (by unfold wPr; omega)]; exact d3.2 h k hh hk⟩, fun h hh => by rw [oo.1 _ _ (by unfold wPr; omega)]; exact d4 h hh, fun h hh => by rw [oo.1 _ _ (by unfold wPr; omega)]; exact d5 h hh, fun h k hh hk => by rw [oo.1 _ _ (by unfold wPr; omega)]; exact d6 h k hh hk, fun k hk => ?_⟩
          obtain ⟨f, e, q1, q2, q3, q4, q5⟩ := d7 k hk
          exact ⟨f, e, by rw [oo.1 _ _ (by unfold wPr; omega)]; exact q1, by rw [oo.1 _ _ (by unfold wPr; omega)]; exact q2, q3, q4, q5⟩
        · show bindS T (headB T) = _
          rw [eh]
          show enSg T _ _ = _
          unfold enSg
          rw [if_pos hs]
        · rw [eh]
          show enSg T _ _ = _
          unfold enSg
          rw [if_neg (by rw [hs]; decide)]
      · rw [hu] at eh
        have o45 := offM_tr o4 o5
        have o6 : offM (fun c j => c = r ∧ j = 1) m5 (mm_uI m5 r 1 0) := offM_uI ⟨rfl, rfl⟩
        have oo : offM (fun c j => wPr 5 (r + 5) c j ∨ (c = r ∧ j = 1)) m3 (mm_uI m5 r 1 0) := offM_tr (offM_mono o45 (fun c j z => Or.inl z)) (offM_mono o6 (fun c j z => Or.inr z))
        obtain ⟨w1, w2⟩ := tr m3 _ oo3 hG3 (offM_mono oo (fun c j z => by unfold wPr at z; unfold wDc; omega))
        exact signX 0 k p _ (by omega) w1 w2 (cXs_off x5 o6 (fun c j z => by omega)) (by rw [oo.1 _ _ (by unfold wPr; omega)]; exact hi3) (Or.inl (by rw [eh]; rfl))
    · rw [s3'.2.1.1]
      refine c_refuseP (k := 1) (p := rn T isBl 0) h0 hG3 s3' (by omega) (by omega) (fun m' o' x' => ?_)
      obtain ⟨w1, w2⟩ := tr m3 m' oo3 hG3 (wPr_D o')
      refine signX 0 1 (rn T isBl 0) m' (by omega) w1 w2 x' (by rw [o'.1 _ _ (by unfold wPr; omega)]; exact hi3) (Or.inl ?_)
      show bindS T (wordF T 0 _ _) = _
      unfold wordF
      rw [if_neg w0]
      rfl
