/-! ===== the class reads a fact ===== -/
theorem c_comparing {T : dT} {tk a r s q o d : Nat} {C : List Nat} {M : mm_M} {K : Int32 → mm_M → Prop} (h0 : cX0 a r) (hG : mm_G M.2.2) (hs : cPs T tk a r s q C o M) (hq : q ≤ T.2) (h1 : ∀ (cm : Nat) (z : Int32), cmpc T q = some cm → z.toInt = tau (cm : Int) → ∀ m, offM (wPr a r) M m → cPs T tk a r s (nxt T q) C o m → K z m) (h2 : cmpc T q = none → ∀ z m, offM (wPr a r) M m → cXs a r 1 q m → K z m) : mm_CI mX6_comparing (d + 7) [.ref a] M K := by
  refine rX6_comparing h0.1 hG (c_isSign h0 hG hs (fun z => ineg (by decide) ?_) (fun z => ipos rfl (c_isSign h0 hG hs (fun z2 => ineg (by decide) ?_) (fun z2 => ipos rfl ?_))))
  · exact lX6_comparing_30 h0.1 hG (ineg (by decide) (ipos hs.2.2.1 (c_nextP (d := d + 1) h0 hG hs hq (fun m o' s' => h1 7 (-5) (by unfold cmpc; rw [if_pos z]) (by decide) m o' s'))))
  · exact lX6_comparing_30 h0.1 hG (ineg (by decide) (ipos hs.2.2.1 (c_nextP (d := d + 1) h0 hG hs hq (fun m o' s' => h1 8 (-6) (by unfold cmpc; rw [if_neg (by rw [z]; decide), if_pos z2]) (by decide) m o' s'))))
  · exact lX6_comparing_30 h0.1 hG (ipos rfl (c_expSign h0 hG hs hq (fun z3 m o' s' => h1 9 (-7) (by unfold cmpc; rw [if_neg (by rw [z]; decide), if_neg (by rw [z2]; decide), if_pos z3]) (by decide) m o' s') (fun z3 m o' x => h2 (by unfold cmpc; rw [if_neg (by rw [z]; decide), if_neg (by rw [z2]; decide), if_neg (by rw [z3]; decide)]) (-7) m o' x)))
theorem c_comparingX {a r d k p : Nat} {M : mm_M} {K : Int32 → mm_M → Prop} (h0 : cX0 a r) (hG : mm_G M.2.2) (hs : cXs a r k p M) (hK : ∀ z, K z M) : mm_CI mX6_comparing (d + 2) [.ref a] M K := by
  have h30 : ∀ u, jX6_comparing_30 (d + 1) a M K u := fun u => lX6_comparing_30 h0.1 hG (ite_go (fun _ => c_expSignX h0 hG hs (hK u)) (fun _ => ineg (X_n0 hs) (hK u)))
  have sg : ∀ (c : Int32) (K' : Int32 → mm_M → Prop), K' 0 M → K' 1 M → mm_CI mX6_isSign (d + 1) [.ref a, .int c] M K' := fun c K' k0 k1 => rX6_isSign h0.1 hG (ite_go (fun _ => ite_go (fun _ => k1) (fun _ => k0)) (fun _ => k0))
  exact rX6_comparing h0.1 hG (sg _ _ (ipos rfl (sg _ _ (ipos rfl (h30 _)) (ineg (by decide) (h30 _)))) (ineg (by decide) (h30 _)))
theorem c_fact {T : dT} {tk a r s k : Nat} (h0 : cX0 a r) (ht : tk < 4) (hrec : ∀ k', k = k' + 1 → TEST T tk a r s k' ∧ FACT T tk a r s k') : FACT T tk a r s k := by
  intro D q C o M K hD hok hG hs hb hq hK1 hK2
  obtain ⟨d, rfl⟩ : ∃ d, D = d + 9 := ⟨D - 9, by omega⟩
  have hn := hs.1.2.1
  obtain ⟨ha, hr, hra, hr1⟩ := id h0
  have G : ∀ m, offM (wPr a r) M m → mm_G m.2.2 := fun m o' => by rw [o'.2.2]; exact hG
  have finK : ∀ m q' cs, offM (wPr a r) M m → cPs T tk a r s q' (C ++ cs) (o + 1) m → q < q' → q' ≤ T.2 → cs.length ≤ q' - q → (evp tk (6 + 5 * k) true cs ∧ ∀ C S, tss T tk (4, q, C, S, o) (5, q', C ++ cs, S, o)) → K (mm_uI m a 10 ((m.1 a 10) - 1)) := fun m q' cs o' s' l1 l2 l3 r' => by
    rw [s'.2.2.2.2.1, show nI (o + 1) - 1 = nI o from pk_sub (a := o + 1) (b := 1) (by omega)]
    exact hK1 _ q' cs (offM_tr o' (offM_uI (by unfold wPr; omega))) (cPs_o s' h0) l1 l2 l3 r'
  have finX : ∀ m k p, offM (wPr a r) M m → cXs a r k p m → (∀ C S, tss T tk (4, q, C, S, o) (xC k p)) → K (mm_uI m a 10 ((m.1 a 10) - 1)) := fun m k p o' x hx => hK2 _ k p (offM_tr o' (offM_uI (by unfold wPr; omega))) (cXs_off x (offM_uI (W := fun c j => c = a ∧ j = 10) ⟨rfl, rfl⟩) (fun c j z => by omega)) hx
  refine rX6_fact ha hG (ipos hs.2.2.1 ?_)
  rw [hs.2.1.2.2.1]
  refine ite_go (fun w20 => ?_) (fun w20 => c_isSign h0 hG hs (fun h91 => ineg (by decide) ?_) (fun h91 => ipos rfl ?_))
  · have hwn : wdn T q ≠ -1 := by rw [w20]; decide
    have hq' := wd_lt hwn
    have hnx := nxt_b hq
    have l0 := hnx.2.2 hq'
    have em : ∀ C S c', tsA T tk q C S o c' ↔ c' = (if o = 6 then xC 4 q else (4, nxt T q, C, 12 :: S, o + 1)) := fun C S c' => by
      unfold tsA; rw [if_neg (by rw [wd_S hwn]; decide), if_pos w20]
    refine c_openP (d := d + 2) h0 hG hs hq (by omega) (fun ho m1 o1 s1 => ?_) (fun ho m1 o1 x1 => ?_)
    · obtain ⟨k', rfl⟩ : ∃ k', k = k' + 1 := ⟨k - 1, by omega⟩
      have em1 : ∀ C' S, tss T tk (4, q, C', S, o) (4, nxt T q, C', 12 :: S, o + 1) := fun C' S => tss_1 ((em C' S _).mpr (by rw [if_neg (by omega)]))
      refine (hrec k' rfl).2 (d + 8) _ C (o + 1) m1 _ (by omega) (by omega) (G m1 o1) s1 (by omega) hnx.2.1 (fun m2 q1 cs o2 s2 l1 l2 l3 r2 => ?_) (fun m2 k'' p o2 x2 r2 => ?_)
      · have o2' := offM_tr o1 o2
        refine c_emitP (c := 12) h0 (G m2 o2') s2 (by rw [List.length_append]; omega) (by decide) (fun m3 o3 s3 => ?_)
        rw [List.append_assoc] at s3
        refine finK m3 _ _ (offM_tr o2' o3) s3 (by omega) l2 ?_ ⟨evp_mono (evp_not r2.1) (by omega), fun C' S => tss_tr (em1 C' S) (tss_tr (r2.2 _ _) (tss_1 ?_))⟩
        · rw [List.length_append]
          have : [12].length = 1 := rfl
          omega
        · show _ = tsE q1 (C' ++ cs) (12 :: S) (o + 1)
          unfold tsE
          show _ = (if 12 = 12 then _ else _)
          rw [if_pos rfl, List.append_assoc]
          rfl
      · have o2' := offM_tr o1 o2
        exact c_emitX h0 (G m2 o2') x2 (fun m3 o3 x3 => finX m3 k'' p (offM_tr o2' o3) x3 (fun C' S => tss_tr (em1 C' S) (r2 _ _)))
    · refine rX6_fact ha (G m1 o1) (ineg (X_n0 x1) (c_emitX h0 (G m1 o1) x1 (fun m3 o3 x3 => finX m3 4 q (offM_tr o1 o3) x3 (fun C' S => tss_1 ((em C' S _).mpr (by rw [if_pos ho]))))))
  · have hq' := (isS_lt h91).1
    have hnx := nxt_b hq
    have l0 := hnx.2.2 hq'
    have em : ∀ C S c', tsA T tk q C S o c' ↔ c' = (if o = 6 then xC 4 q else (4, nxt T q, C, 25 :: S, o + 1)) := fun C S c' => by
      unfold tsA; rw [if_pos h91]
    refine c_openP (d := d + 2) h0 hG hs hq (by omega) (fun ho m1 o1 s1 => ?_) (fun ho m1 o1 x1 => ?_)
    · obtain ⟨k', rfl⟩ : ∃ k', k = k' + 1 := ⟨k - 1, by omega⟩
      have em1 : ∀ C' S, tss T tk (4, q, C', S, o) (4, nxt T q, C', 25 :: S, o + 1) := fun C' S => tss_1 ((em C' S _).mpr (by rw [if_neg (by omega)]))
      have t25 : ∀ S : List Nat, tpT (25 :: S) := fun S v hv => by
        obtain rfl : 25 = v := Option.some.inj hv
        decide
      refine ipos s1.2.2.1 ((hrec k' rfl).1 (d + 8) _ C (o + 1) m1 _ (by omega) (by omega) (G m1 o1) s1 (by omega) hnx.2.1 (fun m2 q1 cs o2 s2 l1 l2 l3 r2 => ?_) (fun m2 k'' p o2 x2 r2 => ?_))
      · obtain ⟨v1, v2, v3, c1, ms, rfl, v6, v7⟩ := r2
        have o2' := offM_tr o1 o2
        have hnx1 := nxt_b l2
        have head : ∀ C' S, tss T tk (4, q, C', S, o) (6, q1, C' ++ c1, ms ++ 25 :: S, o + 1) := fun C' S => tss_tr (em1 C' S) (v7 C' (25 :: S) (t25 S))
        have tw : ∀ S, (ms ++ 25 :: S).takeWhile is25 = ms ∧ (ms ++ 25 :: S).dropWhile is25 = 25 :: S := fun S => tw_app ms (25 :: S) (fun x hx => by
          have := v6 x hx
          unfold is11 at this
          have := of_decide_eq_true this
          unfold is25; exact decide_eq_true (by omega)) (fun v hv => by
          obtain rfl : 25 = v := Option.some.inj hv
          rfl)
        have m25 : ∀ S, 25 ∈ ms ++ 25 :: S := fun S => List.mem_append.mpr (Or.inr List.mem_cons_self)
        refine c_expSign (d := d + 2) h0 (G m2 o2') s2 l2 (fun h93 m3 o3 s3 => finK m3 _ _ (offM_tr o2' o3) s3 (by omega) hnx1.2.1 (by have := hnx1.1; omega) ⟨evp_mono v1 (by omega), fun C' S => tss_tr (head C' S) (tss_1 ?_)⟩) (fun h93 m3 o3 x3 => finX m3 1 q1 (offM_tr o2' o3) x3 (fun C' S => tss_tr (head C' S) (tss_1 ?_)))
        · show _ = tsG T q1 (C' ++ c1) (ms ++ 25 :: S) (o + 1)
          unfold tsG
          rw [if_pos ⟨h93, m25 S⟩, (tw S).1, (tw S).2, List.append_assoc]
          rfl
        · show _ = tsG T q1 (C' ++ c1) (ms ++ 25 :: S) (o + 1)
          unfold tsG
          rw [if_neg (fun z => by rw [h93] at z; exact absurd z.1 (by decide)), if_neg v2, if_neg v3, if_pos (m25 S)]
      · have o2' := offM_tr o1 o2
        exact c_expSignX h0 (G m2 o2') x2 (finX m2 k'' p o2' x2 (fun C' S => tss_tr (em1 C' S) (r2 _ _ (t25 S))))
    · exact ineg (X_n0 x1) (c_expSignX h0 (G m1 o1) x1 (finX m1 4 q o1 x1 (fun C' S => tss_1 ((em C' S _).mpr (by rw [if_pos ho])))))
  · refine c_takeWord (d := d + 2) h0 hG hs hq (fun w21 m1 o1 s1 => ineg (by decide) ?_) (fun w21 => ipos rfl ?_)
    · have hwn : wdn T q ≠ -1 := by rw [w21]; decide
      have hq' := wd_lt hwn
      have hnx := nxt_b hq
      have l0 := hnx.2.2 hq'
      refine c_emitP (c := 13) h0 (G m1 o1) s1 (by omega) (by decide) (fun m2 o2 s2 => hK1 m2 _ _ (offM_tr o1 o2) s2 l0 hnx.2.1 (by show 1 ≤ _; omega) ⟨evp_mono evp_all (by omega), fun C' S => tss_1 ?_⟩)
      show tsA T tk q C' S o _
      unfold tsA
      rw [if_neg (by rw [h91]; decide), if_neg w20, if_pos w21]
    · have em : ∀ C S c', tsA T tk q C S o c' ↔ tsS T tk q C S o c' := fun C S c' => by
        unfold tsA; rw [if_neg (by rw [h91]; decide), if_neg w20, if_neg w21]
      have ev : ∀ (q0 o0 q' : Nat) (c1 ms C' : List Nat), (∀ x ∈ ms, isAM x = true) → noOp T q' → (∀ C S, tpA S → str T tk (0, q0, C, S, o0) (2, q', C ++ c1, ms ++ S, o0)) → str T tk (0, q0, C', [], o0) (3, q', C' ++ (c1 ++ ms), [], o0) := fun q0 o0 q' c1 ms C' hm hno hst => by
        have := hst C' [] (fun v hv => by cases hv)
        rw [List.append_nil] at this
        refine str_tr this (str_1 ?_)
        rw [smG_end hm hno, List.append_assoc]
      have tN : tpA [] := fun v hv => by cases hv
      refine (c_all (T := T) (s := s) h0 ht k).2 (d + 8) q C o M _ (by omega) hok hG hs hb hq (fun m1 q1 cs o1 s1 l1 l2 l3 r1 => ?_) (fun m1 k' p o1 x1 r1 => ?_)
      · obtain ⟨v1, v2, v3, v4, v5, c1, ms, rfl, v6, v7⟩ := r1
        have hS1 := fun C' => ev q o q1 c1 ms C' v6 ⟨v2, v3, v4, v5⟩ v7
        have hnx := nxt_b l2
        refine c_comparing (d := d + 1) h0 (G m1 o1) s1 l2 (fun cm z hcm hz m2 o2 s2 => ?_) (fun hcm z m2 o2 x2 => ?_)
        · have o2' := offM_tr o1 o2
          have hlt : q1 < T.2 := by
            unfold cmpc at hcm
            by_cases z1 : isS T q1 60 = true
            · exact (isS_lt z1).1
            · rw [if_neg z1] at hcm
              by_cases z2 : isS T q1 62 = true
              · exact (isS_lt z2).1
              · rw [if_neg z2] at hcm
                by_cases z3 : isS T q1 61 = true
                · exact (isS_lt z3).1
                · rw [if_neg z3] at hcm; cases hcm
          have hcm7 : cm = 7 ∨ cm = 8 ∨ cm = 9 := by
            unfold cmpc at hcm
            repeat' split at hcm
            all_goals first | cases hcm; decide | cases hcm
          have l0 := hnx.2.2 hlt
          refine c_sumFine h0 (c_all (T := T) (s := s) h0 ht k).2 (by omega) hok (G m2 o2') s2 (by rw [List.length_append]; omega) hnx.2.1 (fun m3 q2 cs2 o3 s3 l4 l5 l6 r3 => ?_) (fun m3 k' p o3 x3 r3 => ?_)
          · obtain ⟨u1, u2, u3, u4, u5, d1, ns, rfl, u6, u7⟩ := r3
            have hS2 := fun C' => ev (nxt T q1) o q2 d1 ns C' u6 ⟨u2, u3, u4, u5⟩ u7
            have o3' := offM_tr o2' o3
            have hl : (C ++ (c1 ++ ms) ++ (d1 ++ ns)).length = C.length + (c1 ++ ms).length + (d1 ++ ns).length := by rw [List.length_append, List.length_append]
            refine c_emitP (c := cm) h0 (G m3 o3') s3 (by rw [hl]; omega) hz (fun m4 o4 s4 => ?_)
            have ea : C ++ (c1 ++ ms) ++ (d1 ++ ns) ++ [cm] = C ++ ((c1 ++ ms) ++ (d1 ++ ns) ++ [cm]) := by simp [List.append_assoc]
            rw [ea] at s4
            refine hK1 m4 q2 _ (offM_tr o3' o4) s4 (by omega) l5 ?_ ⟨?_, fun C' S => tss_1 ((em C' S _).mpr (Or.inr ⟨q1, _, hS1 C', Or.inr ⟨cm, hcm, Or.inr ⟨q2, _, hS2 _, ?_⟩⟩⟩))⟩
            · rw [List.length_append, List.length_append]
              have : [cm].length = 1 := rfl
              omega
            · have := evp_bin (c := cm) v1 u1 (by omega) (fun z => by omega)
              rw [show decide (7 ≤ cm) = true from decide_eq_true (by omega)] at this
              exact evp_mono this (by omega)
            · simp [List.append_assoc]
          · have o3' := offM_tr o2' o3
            exact c_emitX h0 (G m3 o3') x3 (fun m4 o4 x4 => hK2 m4 k' p (offM_tr o3' o4) x4 (fun C' S => tss_1 ((em C' S _).mpr (Or.inr ⟨q1, _, hS1 C', Or.inr ⟨cm, hcm, Or.inl ⟨k', p, r3 _ _ tN, rfl⟩⟩⟩))))
        · have o2' := offM_tr o1 o2
          exact c_sumFineX h0 (G m2 o2') x2 (c_emitX h0 (G m2 o2') x2 (fun m4 o4 x4 => hK2 m4 1 q1 (offM_tr o2' o4) x4 (fun C' S => tss_1 ((em C' S _).mpr (Or.inr ⟨q1, _, hS1 C', Or.inl ⟨hcm, rfl⟩⟩)))))
      · exact c_comparingX h0 (G m1 o1) x1 (fun z => c_sumFineX h0 (G m1 o1) x1 (c_emitX h0 (G m1 o1) x1 (fun m4 o4 x4 => hK2 m4 k' p (offM_tr o1 o4) x4 (fun C' S => tss_1 ((em C' S _).mpr (Or.inl ⟨k', p, r1 C' [] tN, rfl⟩))))))
theorem c_allT {T : dT} {tk a r s : Nat} (h0 : cX0 a r) (ht : tk < 4) : ∀ k, FACT T tk a r s k ∧ TEST T tk a r s k
  | 0 => by
    have hp := c_fact (k := 0) (T := T) (s := s) h0 ht (fun k' e => by omega)
    exact ⟨hp, c_test h0 (c_both h0 hp)⟩
  | k + 1 => by
    have ih := c_allT (T := T) (s := s) h0 ht k
    have hp := c_fact (k := k + 1) (T := T) (s := s) h0 ht (fun k' e => by
      obtain rfl : k' = k := by omega
      exact ⟨ih.2, ih.1⟩)
    exact ⟨hp, c_test h0 (c_both h0 hp)⟩
