/-! ===== the class reads a rule ===== -/
theorem bt_1 : ∀ b, b < 32 → ∀ k, k < 5 → ((((nI b) >>> ((nI k) &&& 31)) &&& 1 = 0) ↔ b.testBit k = false) := by decide +kernel
theorem bt_2 : ∀ b, b < 32 → ∀ k, k < 5 → ((nI b) ||| ((1 : Int32) <<< ((nI k) &&& 31))) = nI (b ||| 2 ^ k) ∧ b ||| 2 ^ k < 32 ∧ ∀ j, j < 5 → (b ||| 2 ^ k).testBit j = (b.testBit j || decide (j = k)) := by decide +kernel
theorem cPs_tk {T : dT} {tk tk' a r s q o : Nat} {C : List Nat} {M : mm_M} (h0 : cX0 a r) (h : cPs T tk a r s q C o M) (h3 : tk ≠ 3) (h3' : tk' ≠ 3) : cPs T tk' a r s q C o (mm_uI M a 11 (msk tk')) := by
  obtain ⟨p1, p2, p3, p4, p5, p6, p7, p8, p9, p10⟩ := h
  obtain ⟨ha, hr, hra, hr1⟩ := h0
  have hne := Rd_ne ha
  have oo : offM (fun c j => c = a ∧ j = 11) M (mm_uI M a 11 (msk tk')) := offM_uI ⟨rfl, rfl⟩
  rw [if_neg h3] at p10
  exact ⟨cTx_off p1 oo (fun c j z => by omega), cTk_off p2 oo (fun j j1 j2 z => by omega), by rw [oo.1 _ _ (by omega)]; exact p3, by rw [oo.1 _ _ (by omega)]; exact p4, by rw [oo.1 _ _ (by omega)]; exact p5, p6, by rw [oo.1 _ _ (by omega)]; exact p7, fun j c hc => by rw [oo.1 _ _ (by omega)]; exact p8 j c hc, uI_at _ _ _ _, by rw [oo.1 _ _ (by omega), if_neg h3']; exact p10⟩
theorem c_factsOf {d k : Nat} {M : mm_M} {K : Int32 → mm_M → Prop} (hG : mm_G M.2.2) (hk : k < 5) (hK : K (msk (tkOf k)) M) : mm_CI mX2_factsOf d [.int (nI k)] M K := by
  refine rX2_factsOf hG ?_
  match k, hk with
  | 0, _ => exact ineg (by decide) (ipos rfl hK)
  | 1, _ => exact ineg (by decide) (ineg (by decide) (ipos rfl hK))
  | 2, _ => exact ineg (by decide) (ineg (by decide) (ineg (by decide) hK))
  | 3, _ => exact ipos rfl hK
  | 4, _ => exact ineg (by decide) (ineg (by decide) (ineg (by decide) hK))
theorem c_place {d r k : Nat} {x y : Int32} {M : mm_M} {K : mm_M → Prop} (hr : r ∈ mm_Rls) (hG : mm_G M.2.2) (hk : k < 5) (hK : ∀ m, offM (fun c j => (c = r + 6 ∨ c = r + 7) ∧ j = k) M m → m.1 (r + 6) k = x → m.1 (r + 7) k = y → K m) : mm_CV mX7_place d [.ref r, .int (nI k), .int x, .int y] M K := by
  refine rX7_place hr hG ?_
  rw [nI_clamp (by omega)]
  refine ineg (nI_pos (by omega)) (ineg (nI_ge (b := 5) hk (by decide)) ⟨vp_in_nI hk (by decide), vp_in_nI hk (by decide), hK _ (offM_tr (offM_uI (by omega)) (offM_uI (by omega))) ?_ (uI_at _ _ _ _)⟩)
  rw [uI_c (by omega), uI_at]
theorem tkOf_lt (k : Nat) : tkOf k < 3 := by
  unfold tkOf
  repeat' split
  all_goals omega
theorem codeT_at {R : dR} {k : Nat} {C : List Nat} : codeT (setCo R k C) k = tas C := by
  unfold codeT setCo
  simp only [setF_at]
theorem codeT_ne {R : dR} {k j : Nat} {C : List Nat} (h : j ≠ k) : codeT (setCo R k C) j = codeT R j := by
  unfold codeT setCo
  simp only [setF_ne h]
set_option maxHeartbeats 2000000 in
theorem c_rule {T : dT} {r i q k d : Nat} {R : dR} {M : mm_M} {K : mm_M → Prop} (hr : r ∈ mm_Rls) (hG : mm_G M.2.2) (h : cDs T r i q R M) (v : vR T q R) (hk : k < 5) (hK : ∀ z, ruleB T k q R z → stK z (fun q' R' => ∀ m, offM (wDc r) M m → cDs T r i q' R' m → K m) (fun k p => ∀ m, offM (wDc r) M m → cDx r i k p m → K m)) : mm_CV mX2_readRule (d + 90) [.ref 4, .int (nI k)] M K := by
  obtain ⟨⟨tk, P, htk, s, hP, hD⟩, hi, ⟨b, hb, hb2, hb3⟩, h4, -⟩ := h
  obtain ⟨v1, v2, v3, v4, v5, v6, v7, v8, v9, v10, v11, v12, v13, hq⟩ := id v
  have hr' := Rl_at hr
  have h0 := cX0_5 hr
  have hn : T.2 ≤ 1600 := s.1.2.1
  have n1 := nxt_b hq
  obtain ⟨t1, t2, t3⟩ := bt_2 b hb k hk
  refine rX2_readRule hG ?_
  rw [hb2, t1, s.2.1.1]
  refine ite_go (fun c => ?_) (fun c => ?_)
  · have hbk := (bt_1 b hb k hk).mp c
    have hnone : R.2.2.2.2.2.2.2.1 k = none := by
      rw [hb3 k hk] at hbk
      exact Option.isSome_eq_false_iff.mp hbk |> Option.isNone_iff_eq_none.mp
    have o1 : offM (fun c j => c = 4 ∧ j = 2) M (mm_uI M 4 2 (nI (b ||| 2 ^ k))) := offM_uI ⟨rfl, rfl⟩
    have g1 : (mm_uI M 4 2 (nI (b ||| 2 ^ k))).1 4 2 = nI (b ||| 2 ^ k) := uI_at _ _ _ _
    generalize mm_uI M 4 2 (nI (b ||| 2 ^ k)) = m1 at o1 g1 ⊢
    have s1 := cPs_off s o1 (fun c j z => by omega)
    have hG1 : mm_G m1.2.2 := by rw [o1.2.2]; exact hG
    refine c_factsOf hG1 hk ?_
    have htk' : tkOf k ≠ 3 := by have := tkOf_lt k; omega
    have s2 := cPs_tk h0 s1 htk htk'
    have o2 : offM (fun c j => c = 5 ∧ j = 11) m1 (mm_uI m1 5 11 (msk (tkOf k))) := offM_uI ⟨rfl, rfl⟩
    have g2 : (mm_uI m1 5 11 (msk (tkOf k))).1 5 14 = nI P.length := by rw [s2.2.2.2.2.2.2.1, Nat.zero_add]
    rw [g2]
    generalize mm_uI m1 5 11 (msk (tkOf k)) = m2 at s2 o2 ⊢
    have hG2 : mm_G m2.2.2 := by rw [o2.2.2]; exact hG1
    have oo2 : offM (fun c j => (c = 4 ∧ j = 2) ∨ (c = 5 ∧ j = 11)) M m2 := offM_tr (offM_mono o1 (fun c j z => Or.inl z)) (offM_mono o2 (fun c j z => Or.inr z))
    refine c_nextP (d := d + 84) h0 hG2 s2 hq (fun m3 o3 s3 => ?_)
    have oo3 : offM (fun c j => (c = 4 ∧ j = 2) ∨ (c = 5 ∧ j = 11) ∨ wPr 5 (r + 5) c j) M m3 := offM_tr (offM_mono oo2 (fun c j z => by rcases z with z | z; exact Or.inl z; exact Or.inr (Or.inl z))) (offM_mono o3 (fun c j z => Or.inr (Or.inr z)))
    have g3 : m3.1 4 2 = nI (b ||| 2 ^ k) := by rw [o3.1 _ _ (by unfold wPr; omega), o2.1 _ _ (by omega)]; exact g1
    have st : ∀ m, offM (wPr 5 (r + 5)) m3 m → offM (wDc r) M m ∧ mm_G m.2.2 ∧ m.2.2 4 1 = some r ∧ cDr r R P m ∧ m.1 r 0 = nI i ∧ m.1 4 2 = nI (b ||| 2 ^ k) := fun m o => by
      have oo : offM (fun c j => (c = 4 ∧ j = 2) ∨ (c = 5 ∧ j = 11) ∨ wPr 5 (r + 5) c j) M m := offM_tr oo3 (offM_mono o (fun c j z => Or.inr (Or.inr z)))
      exact ⟨offM_mono oo (fun c j z => by unfold wPr at z; unfold wDc; omega), by rw [oo.2.2]; exact hG, by rw [oo.2.2]; exact h4, cDr_off hD oo (fun c j z => by unfold wPr at z; omega), by rw [oo.1 _ _ (by unfold wPr; omega)]; exact hi, by rw [o.1 _ _ (by unfold wPr; omega)]; exact g3⟩
    have hG3 := (st m3 offM_rf).2.1
    have hlen : 0 + P.length ≤ 6 + nxt T q := by omega
    -- behind the sum or test
    have good : ∀ (m : mm_M) (q' : Nat) (cs : List Nat), offM (wPr 5 (r + 5)) m3 m → cPs T (tkOf k) 5 (r + 5) 0 q' (P ++ cs) 0 m → nxt T q < q' → q' ≤ T.2 → cs.length ≤ q' - nxt T q → evp (tkOf k) 38 (decide (k = 2)) cs → runS T k (nxt T q) (fun e => (e, q', cs, [], 0)) → (∃ q88 : Nat, m.2.2 4 1 = some q88 ∧ q88 ∈ mm_Rls ∧ mm_CV mX7_place (d + 89) [.ref q88, .int (nI k), .int (nI P.length), .int (m.1 5 14)] m (fun m100 => K m100)) := fun m q' cs o sm l1 l2 l3 hev hrun => by
      obtain ⟨w1, w2, w3, w4, w5, w6⟩ := st m o
      refine ⟨r, w3, hr, ?_⟩
      rw [sm.2.2.2.2.2.2.1, Nat.zero_add]
      refine c_place hr w2 hk (fun m4 o4 f1 f2 => ?_)
      have o4' : offM (wDc r) M m4 := offM_tr w1 (offM_mono o4 (fun c j z => by unfold wDc; omega))
      refine hK _ (Or.inr ⟨hnone, Or.inl ⟨q', cs, hrun, hev, l1, l2, l3, rfl⟩⟩) m4 o4' ⟨⟨tkOf k, P ++ cs, htk', cPs_off sm o4 (fun c j z => by omega), ?_, ?_⟩, by rw [o4.1 _ _ (by omega)]; exact w5, ?_, by rw [o4.2.2]; exact w3, l2⟩
      · rw [List.length_append, hP]
        show 6 + R.2.2.2.2.2.2.2.2 + cs.length = 6 + (R.2.2.2.2.2.2.2.2 + cs.length)
        omega
      · obtain ⟨d1, d2, d3, d4, d5, d6, d7⟩ := cDr_P (Q := cs) w4
        refine ⟨by rw [o4.1 _ _ (by omega)]; exact d1, by rw [o4.1 _ _ (by omega)]; exact d2, ⟨by rw [o4.1 _ _ (by omega)]; exact d3.1, fun h k hh hk => by rw [o4.1 _ _ (by omega)]; exact d3.2 h k hh hk⟩, fun h hh => by rw [o4.1 _ _ (by omega)]; exact d4 h hh, fun h hh => by rw [o4.1 _ _ (by omega)]; exact d5 h hh, fun h k hh hk => by rw [o4.1 _ _ (by omega)]; exact d6 h k hh hk, fun j hj => ?_⟩
        by_cases e : j = k
        · subst e
          rw [codeT_at]
          refine ⟨P.length, (P ++ cs).length, f1, f2, ?_, Nat.le_refl _, fun n t ht => ?_⟩
          · rw [List.length_append]
            unfold tas
            rw [List.length_map]
          · unfold tas at ht
            rw [List.getElem?_map] at ht
            obtain ⟨c, c1, c2⟩ := Option.map_eq_some_iff.mp ht
            exact ⟨c, by rw [List.getElem?_append_right (by omega), show P.length + n - P.length = n by omega]; exact c1, c2⟩
        · rw [codeT_ne e]
          obtain ⟨f, e', q1, q2, q3, q4, q5⟩ := d7 j hj
          exact ⟨f, e', by rw [o4.1 _ _ (by omega)]; exact q1, by rw [o4.1 _ _ (by omega)]; exact q2, q3, q4, q5⟩
      · refine ⟨b ||| 2 ^ k, t2, by rw [o4.1 _ _ (by omega)]; exact w6, fun j hj => ?_⟩
        rw [t3 j hj, hb3 j hj]
        show _ = (setF R.2.2.2.2.2.2.2.1 k (some cs) j).isSome
        by_cases e : j = k
        · subst e
          rw [setF_at, decide_eq_true rfl, Bool.or_true]; rfl
        · rw [setF_ne e, decide_eq_false e, Bool.or_false]
    have fault : ∀ (m : mm_M) (e p : Nat), offM (wPr 5 (r + 5)) m3 m → cXs 5 (r + 5) e p m → runS T k (nxt T q) (fun _ => xC e p) → (∃ q88 : Nat, m.2.2 4 1 = some q88 ∧ q88 ∈ mm_Rls ∧ mm_CV mX7_place (d + 89) [.ref q88, .int (nI k), .int (nI P.length), .int (m.1 5 14)] m (fun m100 => K m100)) := fun m e p o x hrun => by
      obtain ⟨w1, w2, w3, w4, w5, w6⟩ := st m o
      refine ⟨r, w3, hr, c_place hr w2 hk (fun m4 o4 f1 f2 => ?_)⟩
      have o4' : offM (wDc r) M m4 := offM_tr w1 (offM_mono o4 (fun c j z => by unfold wDc; omega))
      exact hK _ (Or.inr ⟨hnone, Or.inr ⟨e, p, hrun, rfl⟩⟩) m4 o4' ⟨cXs_off x o4 (fun c j z => by omega), by rw [o4.1 _ _ (by omega)]; exact w5, by rw [o4.2.2]; exact w3⟩
    by_cases k2 : k = 2
    · subst k2
      refine ipos rfl ((c_allT (T := T) (s := 0) h0 (by decide : tkOf 2 < 4) 6).2 (d + 89) _ P 0 m3 _ (by omega) rfl hG3 s3 hlen n1.2.1 (fun m q' cs o sm l1 l2 l3 rr => ?_) (fun m e p o x rr => fault m e p o x ?_))
      · obtain ⟨u1, u2, u3, c1, ms, rfl, u6, u7⟩ := rr
        refine good m q' (c1 ++ ms) o sm l1 l2 l3 (evp_mono u1 (by omega)) ?_
        unfold runS
        rw [if_pos rfl]
        refine tss_tr (u7 [] [] (fun v hv => by cases hv)) (tss_1 ?_)
        show _ = tsG T q' ([] ++ c1) (ms ++ []) 0
        have n25 : ¬ 25 ∈ ms := fun z => by
          have := u6 25 z
          exact absurd this (by decide)
        unfold tsG
        rw [List.append_nil, if_neg (fun z => n25 z.2), if_neg u2, if_neg u3, if_neg n25]
        rfl
      · unfold runS
        rw [if_pos rfl]
        exact rr [] [] (fun v hv => by cases hv)
    · refine ineg (fun z => k2 ((nI_eq (a := k) (b := 2) (by omega) (by decide)).mp z)) ((c_all (T := T) (s := 0) h0 (by have := tkOf_lt k; omega : tkOf k < 4) 6).2 (d + 89) _ P 0 m3 _ (by omega) rfl hG3 s3 hlen n1.2.1 (fun m q' cs o sm l1 l2 l3 rr => ?_) (fun m e p o x rr => fault m e p o x ?_))
      · obtain ⟨u1, u2, u3, u4, u5, c1, ms, rfl, u6, u7⟩ := rr
        refine good m q' (c1 ++ ms) o sm l1 l2 l3 (by rw [decide_eq_false k2]; exact evp_mono u1 (by omega)) ?_
        unfold runS
        rw [if_neg k2]
        have := u7 [] [] (fun v hv => by cases hv)
        rw [List.append_nil] at this
        exact str_tr this (str_1 (smG_end u6 ⟨u2, u3, u4, u5⟩))
      · unfold runS
        rw [if_neg k2]
        exact rr [] [] (fun v hv => by cases hv)
  · have hbk : ¬ b.testBit k = false := mt (bt_1 b hb k hk).mpr c
    have hsome : R.2.2.2.2.2.2.2.1 k ≠ none := fun z => hbk (by rw [hb3 k hk, z]; rfl)
    refine c_refuseP (k := 5) (p := q) h0 hG s (by omega) (by omega) (fun m o x => ?_)
    exact hK _ (Or.inl ⟨hsome, rfl⟩) m (wPr_D o) ⟨x, by rw [o.1 _ _ (by unfold wPr; omega)]; exact hi, by rw [o.2.2]; exact h4⟩
