/-! ===== the class reads a house ===== -/
def stK (r : dZ) (ok : Nat → dR → Prop) (no : Nat → Nat → Prop) : Prop := match r with
  | .inl x => ok x.1 x.2
  | .inr x => no x.1 x.2
def codeT (R : dR) (k : Nat) : List Int := match R.2.2.2.2.2.2.2.1 k with
  | none => dfl k
  | some C => tas C
/-- the rules that are read, but for the row of codes -/
def cDr (r : Nat) (R : dR) (P : List Nat) (M : mm_M) : Prop := M.1 r 1 = R.1 ∧ M.1 r 3 = R.2.1 ∧ cNm r R.2.2.1 R.2.2.2.1 M ∧ (∀ h, h < 7 → M.1 (r + 2) h = R.2.2.2.2.1 h) ∧ (∀ h, h < 7 → M.1 (r + 3) h = R.2.2.2.2.2.1 h) ∧ (∀ h k, h < 7 → k < 7 → M.1 (r + 4) (8 * h + k) = R.2.2.2.2.2.2.1 h k) ∧ ∀ k, k < 5 → ∃ f e : Nat, M.1 (r + 6) k = nI f ∧ M.1 (r + 7) k = nI e ∧ f + (codeT R k).length = e ∧ e ≤ P.length ∧ ∀ j t, (codeT R k)[j]? = some t → ∃ c : Nat, P[f + j]? = some c ∧ tau (c : Int) = t
def cTd (R : dR) (M : mm_M) : Prop := ∃ b, b < 32 ∧ M.1 4 2 = nI b ∧ ∀ k, k < 5 → b.testBit k = (R.2.2.2.2.2.2.2.1 k).isSome
/-- i statements are read -/
def cDs (T : dT) (r i q : Nat) (R : dR) (M : mm_M) : Prop := (∃ tk P, tk ≠ 3 ∧ cPs T tk 5 (r + 5) 0 q P 0 M ∧ P.length = 6 + R.2.2.2.2.2.2.2.2 ∧ cDr r R P M) ∧ M.1 r 0 = nI i ∧ cTd R M ∧ M.2.2 4 1 = some r ∧ q ≤ T.2
def cDx (r i k p : Nat) (M : mm_M) : Prop := cXs 5 (r + 5) k p M ∧ M.1 r 0 = nI i ∧ M.2.2 4 1 = some r
def wDc (r c j : Nat) : Prop := (c = 5 ∧ 2 ≤ j ∧ j ≤ 14 ∧ j ≠ 12) ∨ (r ≤ c ∧ c ≤ r + 7) ∨ (c = 4 ∧ j = 2)
theorem wPr_D {r : Nat} {M m : mm_M} (o : offM (wPr 5 (r + 5)) M m) : offM (wDc r) M m := offM_mono o (fun c j z => by unfold wPr at z; unfold wDc; omega)
theorem cX0_5 {r : Nat} (hr : r ∈ mm_Rls) : cX0 5 (r + 5) := by
  rcases Rl_at hr with rfl | rfl
  · exact ⟨by decide, by decide +kernel, by decide, by decide⟩
  · exact ⟨by decide, by decide +kernel, by decide, by decide⟩
theorem cPs_off {W : Nat → Nat → Prop} {T : dT} {tk a r s q o : Nat} {C : List Nat} {M m : mm_M} (h : cPs T tk a r s q C o M) (o' : offM W M m) (hW : ∀ c j, W c j → ¬ (c = 1 ∨ c = a ∨ c = r)) : cPs T tk a r s q C o m := by
  obtain ⟨p1, p2, p3, p4, p5, p6, p7, p8, p9, p10⟩ := h
  have g : ∀ c j, (c = 1 ∨ c = a ∨ c = r) → m.1 c j = M.1 c j := fun c j z => o'.1 c j (fun y => hW c j y z)
  exact ⟨⟨by rw [g a 1 (by omega)]; exact p1.1, p1.2.1, by rw [o'.2.2]; exact p1.2.2.1, fun j hj => by rw [g 1 j (by omega)]; exact p1.2.2.2 j hj⟩, cTk_off p2 o' (fun j _ _ z => hW _ _ z (by omega)), by rw [g a _ (by omega)]; exact p3, by rw [g a _ (by omega)]; exact p4, by rw [g a _ (by omega)]; exact p5, by rw [o'.2.2]; exact p6, by rw [g a _ (by omega)]; exact p7, fun j c hc => by rw [g r _ (by omega)]; exact p8 j c hc, by rw [g a _ (by omega)]; exact p9, by rw [g a _ (by omega)]; exact p10⟩
theorem cDr_off {W : Nat → Nat → Prop} {r : Nat} {R : dR} {P : List Nat} {M m : mm_M} (h : cDr r R P M) (o : offM W M m) (hW : ∀ c j, W c j → ¬ ((c = r ∧ 1 ≤ j) ∨ (r + 1 ≤ c ∧ c ≤ r + 4) ∨ c = r + 6 ∨ c = r + 7)) : cDr r R P m := by
  obtain ⟨h1, h2, h3, h4, h5, h6, h7⟩ := h
  have g : ∀ c j, ((c = r ∧ 1 ≤ j) ∨ (r + 1 ≤ c ∧ c ≤ r + 4) ∨ c = r + 6 ∨ c = r + 7) → m.1 c j = M.1 c j := fun c j q => o.1 c j (fun z => hW c j z q)
  refine ⟨by rw [g _ _ (by omega)]; exact h1, by rw [g _ _ (by omega)]; exact h2, ⟨by rw [g _ _ (by omega)]; exact h3.1, fun h k hh hk => by rw [g _ _ (by omega)]; exact h3.2 h k hh hk⟩, fun h hh => by rw [g _ _ (by omega)]; exact h4 h hh, fun h hh => by rw [g _ _ (by omega)]; exact h5 h hh, fun h k hh hk => by rw [g _ _ (by omega)]; exact h6 h k hh hk, fun k hk => ?_⟩
  obtain ⟨f, e, q1, q2, q3, q4, q5⟩ := h7 k hk
  exact ⟨f, e, by rw [g _ _ (by omega)]; exact q1, by rw [g _ _ (by omega)]; exact q2, q3, q4, q5⟩
theorem cDr_P {r : Nat} {R : dR} {P Q : List Nat} {M : mm_M} (h : cDr r R P M) : cDr r R (P ++ Q) M := by
  obtain ⟨h1, h2, h3, h4, h5, h6, h7⟩ := h
  refine ⟨h1, h2, h3, h4, h5, h6, fun k hk => ?_⟩
  obtain ⟨f, e, q1, q2, q3, q4, q5⟩ := h7 k hk
  refine ⟨f, e, q1, q2, q3, by rw [List.length_append]; omega, fun j t ht => ?_⟩
  obtain ⟨c, c1, c2⟩ := q5 j t ht
  exact ⟨c, by rw [List.getElem?_append_left (List.getElem?_eq_some_iff.mp c1).1]; exact c1, c2⟩
set_option maxHeartbeats 2000000 in
theorem c_house {T : dT} {r i q d : Nat} {R : dR} {M : mm_M} {K : mm_M → Prop} (hr : r ∈ mm_Rls) (hG : mm_G M.2.2) (h : cDs T r i q R M) (v : vR T q R) (hK : stK (houseB T q R) (fun q' R' => ∀ m, offM (wDc r) M m → cDs T r i q' R' m → K m) (fun k p => ∀ m, offM (wDc r) M m → cDx r i k p m → K m)) : mm_CV mX2_readHouse (d + 9) [.ref 4] M K := by
  obtain ⟨⟨tk, P, htk, s, hP, hD⟩, hi, hb, h4, -⟩ := h
  obtain ⟨v1, v2, v3, v4, v5, v6, v7, v8, v9, v10, v11, v12, v13, hq⟩ := id v
  have hr' := Rl_at hr
  have h0 := cX0_5 hr
  have hn : T.2 ≤ 1600 := s.1.2.1
  have n1 := nxt_b hq
  have n2 := nxt_b n1.2.1
  have n3 := nxt_b n2.2.1
  have n4 := nxt_b n3.2.1
  have n5 := nxt_b n4.2.1
  have n6 := nxt_b n5.2.1
  have G : ∀ m, offM (wDc r) M m → mm_G m.2.2 := fun m o => by rw [o.2.2]; exact hG
  have R4 : ∀ m, offM (wDc r) M m → m.2.2 4 1 = some r := fun m o => by rw [o.2.2]; exact h4
  refine rX2_readHouse hG ⟨r, h4, hr, ?_⟩
  rw [hD.2.2.1.1]
  unfold houseB at hK
  by_cases c7 : R.2.2.1 = 7
  · rw [if_pos c7] at hK
    rw [c7, s.2.1.1]
    refine ineg (by decide) (c_refuseP (k := 5) (p := q) h0 hG s (by omega) (by omega) (fun m o x => hK m (wPr_D o) ⟨x, by rw [o.1 _ _ (by unfold wPr; omega)]; exact hi, R4 m (wPr_D o)⟩))
  · rw [if_neg c7] at hK
    have h7 : R.2.2.1 < 7 := by omega
    refine ipos (nI_lt (b := 7) h7 (by decide)) (c_nextP (d := d + 3) h0 hG s hq (fun m1 o1 s1 => ?_))
    have o1' := wPr_D o1
    have hD1 := cDr_off hD o1 (fun c j z => by unfold wPr at z; omega)
    refine c_isAtName h0 (G m1 o1') s1 n1.2.1 (fun hnm => ineg (by decide) ⟨r, R4 m1 o1', hr, s1.1.2.2.1, ?_⟩) (fun k p hnm m o x => ipos rfl ?_)
    · rw [hnm] at hK
      simp only at hK
      rw [s1.2.1.1, s1.2.1.2.2.2.1]
      refine c_houseNamed hr (G m1 o1') hn s1.1.2.2.2 n1.2.1 hD1.2.2.1 v3 ?_
      cases hf : fndN R (nmOf T (nxt T q)) with
      | some b =>
        have hb7 := fnd_lt hf
        rw [hf] at hK
        refine ineg (nI_nm1 (b := b) (by omega)) ?_
        rw [s1.2.1.1]
        refine c_refuseP (k := 3) (p := nxt T q) h0 (G m1 o1') s1 (by omega) (by omega) (fun m o x => ?_)
        have o' := offM_tr o1' (wPr_D o)
        exact hK m o' ⟨x, by rw [o.1 _ _ (by unfold wPr; omega), o1.1 _ _ (by unfold wPr; omega)]; exact hi, R4 m o'⟩
      | none =>
        rw [hf] at hK
        simp only at hK
        refine ipos rfl ⟨r, R4 m1 o1', hr, s1.1.2.2.1, ?_⟩
        rw [s1.2.1.1, s1.2.1.2.2.2.1]
        refine c_nameNext hr (G m1 o1') hn s1.1.2.2.2 n1.2.1 hD1.2.2.1.1 h7 (fun m2 o2 e2 => ?_)
        have s2 := cPs_off s1 o2 (fun c j z => by omega)
        have o2' : offM (wDc r) M m2 := offM_tr o1' (offM_mono o2 (fun c j z => by unfold wDc; omega))
        have oo2 : offM (fun c j => wPr 5 (r + 5) c j ∨ (c = r + 1 ∧ 6 * R.2.2.1 ≤ j)) M m2 := offM_tr (offM_mono o1 (fun c j z => Or.inl z)) (offM_mono o2 (fun c j z => Or.inr z))
        -- behind: only the reader's cells change
        have st : ∀ m, offM (wPr 5 (r + 5)) m2 m → offM (wDc r) M m ∧ m.1 r 2 = nI R.2.2.1 ∧ m.1 r 0 = nI i := fun m o => ⟨offM_tr o2' (wPr_D o), by rw [o.1 _ _ (by unfold wPr; omega), oo2.1 _ _ (by unfold wPr; omega)]; exact hD.2.2.1.1, by rw [o.1 _ _ (by unfold wPr; omega), oo2.1 _ _ (by unfold wPr; omega)]; exact hi⟩
        have addX : ∀ (x y : Int32) (k p : Nat) (m : mm_M), offM (wPr 5 (r + 5)) m2 m → cXs 5 (r + 5) k p m → (∀ m, offM (wDc r) M m → cDx r i k p m → K m) → (∃ q168 : Nat, m.2.2 4 1 = some q168 ∧ q168 ∈ mm_Rls ∧ mm_CV mX7_addNext (d + 8) [.ref q168, .int x, .int y] m (fun m173 => K m173)) := fun x y k p m o hx no => by
          obtain ⟨w1, w2, w3⟩ := st m o
          refine ⟨r, R4 m w1, hr, c_addNext hr (G m w1) w2 h7 (fun m' o' _ _ _ => ?_)⟩
          have w1' := offM_tr w1 (offM_mono o' (fun c j z => by unfold wDc; omega))
          exact no m' w1' ⟨cXs_off hx o' (fun c j z => by omega), by rw [o'.1 _ _ (by omega)]; exact w3, R4 m' w1'⟩
        have n9X : ∀ (x : Int32) (k p : Nat) (m : mm_M), offM (wPr 5 (r + 5)) m2 m → cXs 5 (r + 5) k p m → (∀ m, offM (wDc r) M m → cDx r i k p m → K m) → mm_CI mX6_takeNumber (d + 8) [.ref 5, .int 0, .int 9] m (fun z163 m163 => ∃ q168 : Nat, m163.2.2 4 1 = some q168 ∧ q168 ∈ mm_Rls ∧ mm_CV mX7_addNext (d + 8) [.ref q168, .int x, .int z163] m163 (fun m173 => K m173)) := fun x k p m o hx no => c_takeNumX (d := d + 7) h0 (G m (st m o).1) hx (addX x 0 k p m o hx no)
        have w3X : ∀ (x : Int32) (k p : Nat) (m : mm_M), offM (wPr 5 (r + 5)) m2 m → cXs 5 (r + 5) k p m → (∀ m, offM (wDc r) M m → cDx r i k p m → K m) → mm_CV mX6_expectWord (d + 8) [.ref 5, .int 3] m (fun m153 => mm_CI mX6_takeNumber (d + 8) [.ref 5, .int 0, .int 9] m153 (fun z163 m163 => ∃ q168 : Nat, m163.2.2 4 1 = some q168 ∧ q168 ∈ mm_Rls ∧ mm_CV mX7_addNext (d + 8) [.ref q168, .int x, .int z163] m163 (fun m173 => K m173))) := fun x k p m o hx no => c_expWordX (d := d + 6) h0 (G m (st m o).1) hx (n9X x k p m o hx no)
        refine c_nextP (d := d + 3) h0 (G m2 o2') s2 n1.2.1 (fun m3 o3 s3 => ?_)
        refine c_expWord (d := d + 1) h0 (G m3 (st m3 o3).1) s3 n2.2.1 (fun hw m4 o4 s4 => ?_) (fun hw m4 o4 x4 => ?_)
        · have o4' := offM_tr o3 o4
          unfold wordF at hK
          rw [if_pos hw] at hK
          refine c_takeNum (lo := 0) (hi := 99) (d := d + 2) h0 (G m4 (st m4 o4').1) s4 n3.2.1 (by omega) (by omega) (fun hu m5 o5 s5 => ?_) (fun k p hu m5 o5 x5 => ?_)
          · have o5' := offM_tr o4' o5
            unfold numF at hK
            rw [hu] at hK
            simp only at hK
            refine c_expWord (d := d + 1) h0 (G m5 (st m5 o5').1) s5 n4.2.1 (fun hw2 m6 o6 s6 => ?_) (fun hw2 m6 o6 x6 => ?_)
            · have o6' := offM_tr o5' o6
              rw [if_pos hw2] at hK
              refine c_takeNum (lo := 0) (hi := 9) (d := d + 2) h0 (G m6 (st m6 o6').1) s6 n5.2.1 (by omega) (by omega) (fun hu2 m7 o7 s7 => ?_) (fun k p hu2 m7 o7 x7 => ?_)
              · have o7' := offM_tr o6' o7
                rw [hu2] at hK
                have hK : ∀ m, offM (wDc r) M m → cDs T r i (nxt T (nxt T (nxt T (nxt T (nxt T (nxt T q)))))) (addH R (nmOf T (nxt T q)) (vlu T (nxt T (nxt T (nxt T q)))) (vlu T (nxt T (nxt T (nxt T (nxt T (nxt T q))))))) m → K m := hK
                obtain ⟨w1, w2, w3⟩ := st m7 o7'
                refine ⟨r, R4 m7 w1, hr, c_addNext hr (G m7 w1) w2 h7 (fun m8 o8 f1 f2 f3 => ?_)⟩
                have w1' := offM_tr w1 (offM_mono o8 (fun c j z => by unfold wDc; omega))
                have oo7 : offM (fun c j => wPr 5 (r + 5) c j ∨ (c = r + 1 ∧ 6 * R.2.2.1 ≤ j)) M m7 := offM_tr oo2 (offM_mono o7' (fun c j z => Or.inl z))
                have oo : offM (fun c j => wPr 5 (r + 5) c j ∨ (c = r + 1 ∧ 6 * R.2.2.1 ≤ j) ∨ ((c = r ∧ j = 2) ∨ (c = r + 2 ∧ j = R.2.2.1) ∨ (c = r + 3 ∧ j = R.2.2.1))) M m8 := offM_tr (offM_mono oo7 (fun c j z => by rcases z with z | z; exact Or.inl z; exact Or.inr (Or.inl z))) (offM_mono o8 (fun c j z => Or.inr (Or.inr z)))
                refine hK m8 w1' ⟨⟨tk, P, htk, cPs_off s7 o8 (fun c j z => by omega), hP, ?_⟩, by rw [o8.1 _ _ (by omega)]; exact w3, ?_, R4 m8 w1', n6.2.1⟩
                · obtain ⟨d1, d2, d3, d4, d5, d6, d7⟩ := hD
                  refine ⟨by rw [oo.1 _ _ (by unfold wPr; omega)]; exact d1, by rw [oo.1 _ _ (by unfold wPr; omega)]; exact d2, ⟨f1, fun h k hh hk => ?_⟩, fun h hh => ?_, fun h hh => ?_, fun h k hh hk => by rw [oo.1 _ _ (by unfold wPr; omega)]; exact d6 h k hh hk, fun k hk => ?_⟩
                  · have hh : h < R.2.2.1 + 1 := hh
                    show _ = setF R.2.2.2.1 R.2.2.1 (nmOf T (nxt T q)) h k
                    by_cases e : h = R.2.2.1
                    · subst e
                      rw [setF_at, o8.1 _ _ (by omega), o7'.1 _ _ (by unfold wPr; omega)]; exact e2 k hk
                    · rw [setF_ne e, oo.1 _ _ (by unfold wPr; omega)]; exact d3.2 h k (by omega) hk
                  · show _ = setF R.2.2.2.2.1 R.2.2.1 _ h
                    by_cases e : h = R.2.2.1
                    · subst e
                      rw [setF_at]; exact f2
                    · rw [setF_ne e, oo.1 _ _ (by unfold wPr; omega)]; exact d4 h hh
                  · show _ = setF R.2.2.2.2.2.1 R.2.2.1 _ h
                    by_cases e : h = R.2.2.1
                    · subst e
                      rw [setF_at]; exact f3
                    · rw [setF_ne e, oo.1 _ _ (by unfold wPr; omega)]; exact d5 h hh
                  · obtain ⟨f, e, q1, q2, q3, q4, q5⟩ := d7 k hk
                    exact ⟨f, e, by rw [oo.1 _ _ (by unfold wPr; omega)]; exact q1, by rw [oo.1 _ _ (by unfold wPr; omega)]; exact q2, q3, q4, q5⟩
                · obtain ⟨b, b1, b2, b3⟩ := hb
                  exact ⟨b, b1, by rw [oo.1 _ _ (by unfold wPr; omega)]; exact b2, b3⟩
              · rw [hu2] at hK
                exact addX _ _ k p m7 (offM_tr o6' o7) x7 hK
            · rw [if_neg hw2] at hK
              exact n9X _ 1 _ m6 (offM_tr o5' o6) x6 hK
          · unfold numF at hK
            rw [hu] at hK
            exact w3X 0 k p m5 (offM_tr o4' o5) x5 hK
        · unfold wordF at hK
          rw [if_neg hw] at hK
          exact c_takeNumX (d := d + 7) h0 (G m4 (st m4 (offM_tr o3 o4)).1) x4 (w3X 0 1 _ m4 (offM_tr o3 o4) x4 hK)
    · rw [hnm] at hK
      have o' := offM_tr o1' (wPr_D o)
      exact hK m o' ⟨x, by rw [o.1 _ _ (by unfold wPr; omega), o1.1 _ _ (by unfold wPr; omega)]; exact hi, R4 m o'⟩
