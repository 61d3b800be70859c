/-! ===== the class reads a part ===== -/
theorem wd_S {T : dT} {q : Nat} {c : Int32} (h : wdn T q ≠ -1) : isS T q c = false := by
  rcases wdn_c T q with z | ⟨z, -⟩
  · exact absurd z h
  · unfold isS
    exact decide_eq_false (fun y => by rw [z] at y; exact absurd y.1 (by decide))
theorem wd_2 {T : dT} {q : Nat} (h : wdn T q ≠ -1) : ¬ tkk T q = 2 := by
  rcases wdn_c T q with z | ⟨z, -⟩
  · exact absurd z h
  · rw [z]; decide
theorem wd_lt {T : dT} {q : Nat} (h : wdn T q ≠ -1) : q < T.2 := by
  rcases wdn_c T q with z | ⟨z, -⟩
  · exact absurd z h
  · rcases tkk_c T q with ⟨a1, a2, a3⟩ | ⟨a1, a2, a3, a4, a5⟩ | ⟨a1, a2, a3, a4, a5⟩ | ⟨a1, a2, a3, a4⟩
    · rw [z] at a1; exact absurd a1 (by decide)
    · exact a2
    · exact a2
    · exact a2
theorem prt_m1 : ∀ tk, prt tk (-1) = none := fun tk => by
  unfold prt
  rw [if_neg (by decide), if_neg (by decide), if_neg (by decide), if_neg (by decide), if_neg (by decide), if_neg (by decide), if_neg (by decide), if_neg (by decide)]
theorem c_sumFine {T : dT} {tk a r s k D q o : Nat} {C : List Nat} {M : mm_M} {K : mm_M → Prop} (h0 : cX0 a r) (hS : SUM T tk a r s k) (hD : 23 + 6 * k ≤ D) (hok : o + k = 6) (hG : mm_G M.2.2) (hs : cPs T tk a r s q C o M) (hb : s + C.length ≤ 6 + q) (hq : q ≤ T.2) (h1 : pOk T tk a r s q C o M (sumR T tk q o (3 + 3 * k)) K) (h2 : pNo a r M (fun k p => ∀ C S, tpA S → str T tk (0, q, C, S, o) (xC k p)) K) : mm_CV mX6_sumIfFine D [.ref a] M K := by
  obtain ⟨d, rfl⟩ : ∃ d, D = d + 1 := ⟨D - 1, by omega⟩
  exact rX6_sumIfFine h0.1 hG (ipos hs.2.2.1 (hS d q C o M _ (by omega) hok hG hs hb hq h1 h2))
theorem c_sumFineX {a r k p d : Nat} {M : mm_M} {K : mm_M → Prop} (h0 : cX0 a r) (hG : mm_G M.2.2) (hs : cXs a r k p M) (hK : K M) : mm_CV mX6_sumIfFine (d + 1) [.ref a] M K := rX6_sumIfFine h0.1 hG (ineg (X_n0 hs) hK)
theorem c_part {T : dT} {tk a r s k : Nat} (h0 : cX0 a r) (ht : tk < 4) (hrec : ∀ k', k = k' + 1 → SUM T tk a r s k' ∧ PART T tk a r s k') : PART T tk a r s k := by
  intro D q C o M K hD hok hG hs hb hq hK1 hK2
  obtain ⟨d, rfl⟩ : ∃ d, D = d + 8 := ⟨D - 8, by omega⟩
  have hn := hs.1.2.1
  obtain ⟨ha, hr, hra, hr1⟩ := id h0
  have G : ∀ m, offM (wPr a r) M m → mm_G m.2.2 := fun m o' => by rw [o'.2.2]; exact hG
  have tA : ∀ (b : Nat) (S : List Nat), 20 ≤ b ∧ b ≤ 24 → tpA (b :: S) := fun b S hb v hv => by
    obtain rfl : b = v := Option.some.inj hv
    exact ⟨by omega, by unfold isAM; exact decide_eq_false (by omega)⟩
  -- what was opened is closed
  have finK : ∀ m q' cs, offM (wPr a r) M m → cPs T tk a r s q' (C ++ cs) (o + 1) m → q < q' → q' ≤ T.2 → cs.length ≤ q' - q → (evp tk (1 + 3 * k) false cs ∧ ∀ C S, str T tk (0, q, C, S, o) (1, q', C ++ cs, S, o)) → K (mm_uI m a 10 ((m.1 a 10) - 1)) := fun m q' cs o' s' l1 l2 l3 r' => by
    rw [s'.2.2.2.2.1, show nI (o + 1) - 1 = nI o from pk_sub (a := o + 1) (b := 1) (by omega)]
    exact hK1 _ q' cs (offM_tr o' (offM_uI (by unfold wPr; omega))) (cPs_o s' h0) l1 l2 l3 r'
  have finX : ∀ m k p, offM (wPr a r) M m → cXs a r k p m → (∀ C S, str T tk (0, q, C, S, o) (xC k p)) → K (mm_uI m a 10 ((m.1 a 10) - 1)) := fun m k p o' x hx => hK2 _ k p (offM_tr o' (offM_uI (by unfold wPr; omega))) (cXs_off x (offM_uI (W := fun c j => c = a ∧ j = 10) ⟨rfl, rfl⟩) (fun c j z => by omega)) hx
  refine rX6_part ha hG (ipos hs.2.2.1 ?_)
  rw [hs.2.1.2.1]
  by_cases c2 : tkk T q = 2
  · -- a number
    have hq' : q < T.2 := by
      rcases tkk_c T q with ⟨a1, a2, a3⟩ | ⟨a1, a2, a3, a4, a5⟩ | ⟨a1, a2, a3, a4, a5⟩ | ⟨a1, a2, a3, a4⟩
      · rw [a1] at c2; exact absurd c2 (by decide)
      · exact a2
      · exact a2
      · exact a2
    have hnx := nxt_b hq
    have hv := vlu_b hq
    have hw : wdn T q = -1 := by unfold wdn; rw [if_neg (by rw [c2]; decide)]
    have hS : ∀ c, isS T q c = false := fun c => by unfold isS; exact decide_eq_false (fun z => by rw [c2] at z; exact absurd z.1 (by decide))
    have em : ∀ C S, smA T tk q C S o = if ten T q - q ≤ 4 then (1, nxt T q, C ++ [1000 + (vlu T q).toInt.toNat], S, o) else xC 1 (q + 4) := fun C S => by
      unfold smA
      rw [if_neg (by rw [hS]; decide), hw, if_neg (by decide), if_neg (fun z => by rcases z.2 with z | z <;> exact absurd z (by decide)), prt_m1]
      show (if tkk T q = 2 then _ else _) = _
      rw [if_pos c2]
    refine ipos c2 (c_takeNum (lo := 0) (hi := 9999) (d := d + 1) h0 hG hs hq (by omega) (by omega) (fun en m o' s' => ?_) (fun k' p en m o' x => ?_))
    · have c4 : ten T q - q ≤ 4 := by
        unfold nuX at en
        rw [if_pos c2] at en
        by_cases z : ten T q - q ≤ 4
        · exact z
        · rw [if_neg z] at en; cases en
      refine c_emitP (c := 1000 + (vlu T q).toInt.toNat) h0 (G m o') s' (by omega) ?_ (fun m2 o2 s2 => ?_)
      · unfold tau; rw [if_pos (by omega)]; omega
      · refine hK1 m2 _ _ (offM_tr o' o2) s2 (hnx.2.2 hq') hnx.2.1 (by show 1 ≤ _; have := hnx.2.2 hq'; omega) ⟨evp_mono (evp_num (by omega)) (by omega), fun C' S => str_1 ?_⟩
        show smA T tk q C' S o = _
        rw [em, if_pos c4]
    · refine c_emitX h0 (G m o') x (fun m2 o2 x2 => hK2 m2 k' p (offM_tr o' o2) x2 (fun C' S => str_1 ?_))
      show smA T tk q C' S o = _
      rw [em]
      unfold nuX at en
      rw [if_pos c2] at en
      by_cases z : ten T q - q ≤ 4
      · rw [if_pos z, if_pos (by omega)] at en; cases en
      · rw [if_neg z] at en
        have := Option.some.inj en
        rw [if_neg z]
        obtain ⟨rfl, rfl⟩ := Prod.mk.inj this
        rfl
  refine ineg c2 (c_isSign h0 hG hs (fun hp => ineg (by decide) ?_) (fun hp => ipos rfl ?_))
  · -- a bracket
    have hq' := (isS_lt hp).1
    have hnx := nxt_b hq
    have em : ∀ C S, smA T tk q C S o = if o = 6 then xC 4 q else (0, nxt T q, C, 20 :: S, o + 1) := fun C S => by unfold smA; rw [if_pos hp]
    refine c_openP (d := d + 1) h0 hG hs hq (by omega) (fun ho m1 o1 s1 => ?_) (fun ho m1 o1 x1 => ?_)
    · obtain ⟨k', rfl⟩ : ∃ k', k = k' + 1 := ⟨k - 1, by omega⟩
      refine c_sumFine h0 (hrec k' rfl).1 (by omega) (by omega) (G m1 o1) s1 (by have := hnx.1; omega) hnx.2.1 (fun m2 q1 cs o2 s2 l1 l2 l3 r2 => ?_) (fun m2 k'' p o2 x2 r2 => ?_)
      · obtain ⟨v1, v2, v3, v4, v5, c1, ms, rfl, v6, v7⟩ := r2
        have o2' := offM_tr o1 o2
        have hnx1 := nxt_b l2
        have head : ∀ C' S, str T tk (0, q, C', S, o) (2, q1, C' ++ c1, ms ++ 20 :: S, o + 1) := fun C' S => str_tr (str_1 (show smA T tk q C' S o = (0, nxt T q, C', 20 :: S, o + 1) by rw [em, if_neg (by omega)])) (v7 C' (20 :: S) (tA 20 S (by omega)))
        refine c_expSign (d := d + 1) h0 (G m2 o2') s2 l2 (fun h41 m3 o3 s3 => finK m3 _ _ (offM_tr o2' o3) s3 (by have := hnx.1; omega) hnx1.2.1 (by have := hnx.1; have := hnx1.1; omega) ⟨evp_mono v1 (by omega), fun C' S => ?_⟩) (fun h41 m3 o3 x3 => finX m3 1 q1 (offM_tr o2' o3) x3 (fun C' S => ?_))
        · refine str_tr (head C' S) (str_1 ?_)
          rw [smG_close h41 v6 (Or.inl rfl), if_pos rfl, List.append_nil, List.append_assoc]
        · exact str_tr (head C' S) (str_1 (smG_bad v6 (by omega) ⟨v2, v3, v4, v5⟩ (Or.inr ⟨Or.inl rfl, h41⟩)))
      · have o2' := offM_tr o1 o2
        refine c_expSignX h0 (G m2 o2') x2 (finX m2 k'' p o2' x2 (fun C' S => str_tr (str_1 (show smA T tk q C' S o = (0, nxt T q, C', 20 :: S, o + 1) by rw [em, if_neg (by omega)])) (r2 C' (20 :: S) (tA 20 S (by omega)))))
    · exact c_sumFineX h0 (G m1 o1) x1 (c_expSignX h0 (G m1 o1) x1 (finX m1 4 q o1 x1 (fun C' S => str_1 (show smA T tk q C' S o = _ by rw [em, if_pos ho]))))
  · rw [hs.2.1.2.2.1]
    -- least, greatest
    have mima : ∀ (x : Int32) (c b : Nat), x.toInt = tau (c : Int) → (wdn T q = 22 ∨ wdn T q = 23) → ((if wdn T q = 22 then 21 else 22) = b) → (b = 21 ∧ c = 5 ∨ b = 22 ∧ c = 6) → jX6_lesserOrGreater_16 (d + 6) a M K x := fun x c b hx hw hbe hbc => by
      have hwn : wdn T q ≠ -1 := by rcases hw with z | z <;> rw [z] <;> decide
      have hq' := wd_lt hwn
      have hnx := nxt_b hq
      have em : ∀ C S, smA T tk q C S o = if isS T (nxt T q) 40 then (if o = 6 then xC 4 (nxt T q) else (0, nxt T (nxt T q), C, b :: S, o + 1)) else xC 1 (nxt T q) := fun C S => by
        unfold smA; rw [if_neg (by rw [hp]; decide), if_pos hw, hbe]
      refine lX6_lesserOrGreater_16 ha hG (c_nextP (d := d + 1) h0 hG hs hq (fun m1 o1 s1 => c_isSign h0 (G m1 o1) s1 (fun h40 => ineg (by decide) ?_) (fun h40 => ipos rfl ?_)))
      · have hnx2 := nxt_b hnx.2.1
        have hq2 := (isS_lt h40).1
        refine c_openP h0 (G m1 o1) s1 hnx.2.1 (by omega) (fun ho m2 o2 s2 => ?_) (fun ho m2 o2 x2 => ?_)
        · have o2' := offM_tr o1 o2
          have em1 : ∀ C' S, str T tk (0, q, C', S, o) (0, nxt T (nxt T q), C', b :: S, o + 1) := fun C' S => str_1 (show smA T tk q C' S o = _ by rw [em, if_pos h40, if_neg (by omega)])
          obtain ⟨k', rfl⟩ : ∃ k', k = k' + 1 := ⟨k - 1, by omega⟩
          have l0 := hnx2.2.2 hq2
          refine c_sumFine h0 (hrec k' rfl).1 (by omega) (by omega) (G m2 o2') s2 (by have := hnx.1; omega) hnx2.2.1 (fun m3 q1 cs o3 s3 l1 l2 l3 r3 => ?_) (fun m3 k'' p o3 x3 r3 => ?_)
          · obtain ⟨v1, v2, v3, v4, v5, c1, ms, rfl, v6, v7⟩ := r3
            have o3' := offM_tr o2' o3
            have hnx3 := nxt_b l2
            have head : ∀ C' S, str T tk (0, q, C', S, o) (2, q1, C' ++ c1, ms ++ b :: S, o + 1) := fun C' S => str_tr (em1 C' S) (v7 C' (b :: S) (tA b S (by omega)))
            refine c_expSign h0 (G m3 o3') s3 l2 (fun h44 m4 o4 s4 => ?_) (fun h44 m4 o4 x4 => ?_)
            · have o4' := offM_tr o3' o4
              have hq3 := (isS_lt h44).1
              have l4 := hnx3.2.2 hq3
              have head2 : ∀ C' S, str T tk (0, q, C', S, o) (0, nxt T q1, C' ++ (c1 ++ ms), (b + 2) :: S, o + 1) := fun C' S => by
                refine str_tr (head C' S) (str_1 ?_)
                rw [smG_comma h44 v6 (by omega), List.append_assoc]
              refine c_sumFine h0 (hrec k' rfl).1 (by omega) (by omega) (G m4 o4') s4 (by rw [List.length_append]; omega) hnx3.2.1 (fun m5 q2 cs2 o5 s5 l5 l6 l7 r5 => ?_) (fun m5 k'' p o5 x5 r5 => ?_)
              · obtain ⟨u1, u2, u3, u4, u5, d1, ns, rfl, u6, u7⟩ := r5
                have o5' := offM_tr o4' o5
                have hnx4 := nxt_b l6
                have head3 : ∀ C' S, str T tk (0, q, C', S, o) (2, q2, C' ++ (c1 ++ ms) ++ d1, ns ++ (b + 2) :: S, o + 1) := fun C' S => str_tr (head2 C' S) (u7 _ _ (tA (b + 2) S (by omega)))
                refine c_expSign h0 (G m5 o5') s5 l6 (fun h41 m6 o6 s6 => ?_) (fun h41 m6 o6 x6 => ?_)
                · have o6' := offM_tr o5' o6
                  have l8 := hnx4.2.2 (isS_lt h41).1
                  have hl : (C ++ (c1 ++ ms) ++ (d1 ++ ns)).length = C.length + (c1 ++ ms).length + (d1 ++ ns).length := by rw [List.length_append, List.length_append]
                  refine c_emitP (c := c) h0 (G m6 o6') s6 (by rw [hl]; omega) hx (fun m7 o7 s7 => ?_)
                  have ea : C ++ (c1 ++ ms) ++ (d1 ++ ns) ++ [c] = C ++ ((c1 ++ ms) ++ (d1 ++ ns) ++ [c]) := by simp [List.append_assoc]
                  rw [ea] at s7
                  refine finK m7 _ _ (offM_tr o6' o7) s7 (by omega) hnx4.2.1 ?_ ⟨?_, fun C' S => str_tr (head3 C' S) (str_1 ?_)⟩
                  · rw [List.length_append, List.length_append]
                    have : [c].length = 1 := rfl
                    omega
                  · have := evp_bin (c := c) v1 u1 (by omega) (fun z => by omega)
                    rw [show decide (7 ≤ c) = false from decide_eq_false (by omega)] at this
                    exact evp_mono this (by omega)
                  · rw [smG_close h41 u6 (by omega)]
                    have : (if b + 2 = 20 then [] else if b + 2 = 23 then [5] else [6]) = [c] := by
                      rcases hbc with ⟨rfl, rfl⟩ | ⟨rfl, rfl⟩ <;> rfl
                    rw [this]
                    simp [List.append_assoc]
                · have o6' := offM_tr o5' o6
                  exact c_emitX h0 (G m6 o6') x6 (fun m7 o7 x7 => finX m7 1 q2 (offM_tr o6' o7) x7 (fun C' S => str_tr (head3 C' S) (str_1 (smG_bad u6 (by omega) ⟨u2, u3, u4, u5⟩ (Or.inr ⟨by omega, h41⟩)))))
              · have o5' := offM_tr o4' o5
                exact c_expSignX h0 (G m5 o5') x5 (c_emitX h0 (G m5 o5') x5 (fun m7 o7 x7 => finX m7 k'' p (offM_tr o5' o7) x7 (fun C' S => str_tr (head2 C' S) (r5 _ _ (tA (b + 2) S (by omega))))))
            · have o4' := offM_tr o3' o4
              exact c_sumFineX h0 (G m4 o4') x4 (c_expSignX h0 (G m4 o4') x4 (c_emitX h0 (G m4 o4') x4 (fun m7 o7 x7 => finX m7 1 q1 (offM_tr o4' o7) x7 (fun C' S => str_tr (head C' S) (str_1 (smG_bad v6 (by omega) ⟨v2, v3, v4, v5⟩ (Or.inl ⟨by omega, h44⟩)))))))
          · have o3' := offM_tr o2' o3
            exact c_expSignX h0 (G m3 o3') x3 (c_sumFineX h0 (G m3 o3') x3 (c_expSignX h0 (G m3 o3') x3 (c_emitX h0 (G m3 o3') x3 (fun m7 o7 x7 => finX m7 k'' p (offM_tr o3' o7) x7 (fun C' S => str_tr (em1 C' S) (r3 _ _ (tA b S (by omega))))))))
        · have o2' := offM_tr o1 o2
          exact c_sumFineX h0 (G m2 o2') x2 (c_expSignX h0 (G m2 o2') x2 (c_sumFineX h0 (G m2 o2') x2 (c_expSignX h0 (G m2 o2') x2 (c_emitX h0 (G m2 o2') x2 (fun m7 o7 x7 => finX m7 4 (nxt T q) (offM_tr o2' o7) x7 (fun C' S => str_1 (show smA T tk q C' S o = _ by rw [em, if_pos h40, if_pos ho])))))))
      · rw [s1.2.1.1]
        exact c_refuseP (k := 1) (p := nxt T q) h0 (G m1 o1) s1 (by omega) (by have := hnx.2.1; omega) (fun m2 o2 x2 => hK2 m2 1 (nxt T q) (offM_tr o1 o2) x2 (fun C' S => str_1 (show smA T tk q C' S o = _ by rw [em, if_neg (by rw [h40]; decide)])))
    refine ite_go (fun w22 => ?_) (fun w22 => ite_go (fun w23 => ?_) (fun w23 => ?_))
    · refine rX6_lesserOrGreater ha hG ?_
      rw [hs.2.1.2.2.1]
      exact ipos w22 (mima (-10) 5 21 (by decide) (Or.inl w22) (by rw [if_pos w22]) (Or.inl ⟨rfl, rfl⟩))
    · refine rX6_lesserOrGreater ha hG ?_
      rw [hs.2.1.2.2.1]
      exact ineg w22 (mima (-11) 6 22 (by decide) (Or.inr w23) (by rw [if_neg w22]) (Or.inr ⟨rfl, rfl⟩))
    · -- of a number
      have of : ∀ (x : Int32) (c : Nat), x.toInt = tau (c : Int) → tk = 3 → (wdn T q = 6 ∨ wdn T q = 8) → (if wdn T q = 6 then 60 else 61) = c → (c = 60 ∨ c = 61) → jX6_part_133 (d + 7) a M K x := fun x c hx h3 hw hc hcc => by
        subst h3
        have hwn : wdn T q ≠ -1 := by rcases hw with z | z <;> rw [z] <;> decide
        have hq' := wd_lt hwn
        have hnx := nxt_b hq
        have em : ∀ C S, smA T 3 q C S o = if o = 6 then xC 4 q else (0, nxt T q, C, c :: S, o + 1) := fun C S => by
          unfold smA; rw [if_neg (by rw [hp]; decide), if_neg (by rintro (z | z); exact w22 z; exact w23 z), if_pos ⟨rfl, hw⟩, hc]
        refine lX6_part_133 ha hG (c_openP (d := d + 1) h0 hG hs hq (by omega) (fun ho m1 o1 s1 => ?_) (fun ho m1 o1 x1 => ?_))
        · obtain ⟨k', rfl⟩ : ∃ k', k = k' + 1 := ⟨k - 1, by omega⟩
          have l0 := hnx.2.2 hq'
          have em1 : ∀ C' S, str T 3 (0, q, C', S, o) (0, nxt T q, C', c :: S, o + 1) := fun C' S => str_1 (show smA T 3 q C' S o = _ by rw [em, if_neg (by omega)])
          refine (hrec k' rfl).2 (d + 7) _ C (o + 1) m1 _ (by omega) (by omega) (G m1 o1) s1 (by omega) hnx.2.1 (fun m2 q1 cs o2 s2 l1 l2 l3 r2 => ?_) (fun m2 k'' p o2 x2 r2 => ?_)
          · have o2' := offM_tr o1 o2
            refine c_emitP (c := c) h0 (G m2 o2') s2 (by rw [List.length_append]; omega) hx (fun m3 o3 s3 => ?_)
            rw [List.append_assoc] at s3
            refine finK m3 _ _ (offM_tr o2' o3) s3 (by omega) l2 ?_ ⟨evp_mono (evp_of r2.1 hcc) (by omega), fun C' S => str_tr (em1 C' S) (str_tr (r2.2 _ _) (str_1 ?_))⟩
            · rw [List.length_append]
              have : [c].length = 1 := rfl
              omega
            · show smE q1 (C' ++ cs) (c :: S) (o + 1) = _
              unfold smE
              show (if 60 ≤ c then _ else _) = _
              rw [if_pos (by omega), List.append_assoc]
              rfl
          · have o2' := offM_tr o1 o2
            exact c_emitX h0 (G m2 o2') x2 (fun m3 o3 x3 => finX m3 k'' p (offM_tr o2' o3) x3 (fun C' S => str_tr (em1 C' S) (r2 _ _)))
        · obtain rfl : k = 0 := by omega
          refine rX6_part ha (G m1 o1) (ineg (X_n0 x1) (c_emitX h0 (G m1 o1) x1 (fun m3 o3 x3 => finX m3 4 q (offM_tr o1 o3) x3 (fun C' S => str_1 (show smA T 3 q C' S o = _ by rw [em, if_pos ho])))))
      -- a fact
      have fact : ¬ (tk = 3 ∧ (wdn T q = 6 ∨ wdn T q = 8)) → jX6_part_160 (d + 7) a M K := fun hno => by
        have em : ∀ C S, smA T tk q C S o = match prt tk (wdn T q) with
            | some p => (1, nxt T q, C ++ [40 + p], S, o)
            | none => if tkk T q = 2 then (if ten T q - q ≤ 4 then (1, nxt T q, C ++ [1000 + (vlu T q).toInt.toNat], S, o) else xC 1 (q + 4)) else xC 1 q := fun C S => by
          unfold smA; rw [if_neg (by rw [hp]; decide), if_neg (by rintro (z | z); exact w22 z; exact w23 z), if_neg hno]
          cases prt tk (wdn T q) <;> rfl
        refine lX6_part_160 ha hG ?_
        rw [hs.2.1.2.2.1, hs.2.2.2.2.2.2.2.2.1, hs.2.1.1]
        have bad : prt tk (wdn T q) = none → mm_CV mX6_refuse (d + 7) [.ref a, .int 1, .int (nI q)] M (fun m206 => K m206) := fun e =>
          c_refuseP (k := 1) (p := q) h0 hG hs (by omega) (by omega) (fun m2 o2 x2 => hK2 m2 1 q o2 x2 (fun C' S => str_1 (show smA T tk q C' S o = _ by rw [em, e]; show (if tkk T q = 2 then _ else _) = _; rw [if_neg c2])))
        rcases wdn_c T q with hw | ⟨hw1, j, hj, hw⟩
        · rw [hw]
          exact ipos (by decide) (bad (by rw [hw]; exact prt_m1 tk))
        · have hwn : wdn T q ≠ -1 := by rw [hw]; exact nI_nm1 (by omega)
          have hq' := wd_lt hwn
          have hnx := nxt_b hq
          have l0 := hnx.2.2 hq'
          rw [hw]
          refine ineg (nI_pos (by omega)) (ite_go (fun cz => bad ?_) (fun cz => ?_))
          · rw [hw]; exact (msk_ok ht hj).mp cz
          · cases hpr : prt tk (nI j) with
            | none => exact absurd ((msk_ok ht hj).mpr hpr) cz
            | some p =>
              have hp8 := prt_lt hpr
              obtain ⟨e1', -⟩ := prt_al tk ht j hj p hp8 hpr
              refine c_emitP (c := 40 + p) h0 hG hs (by omega) ?_ (fun m1 o1 s1 => c_nextP (d := d + 2) h0 (G m1 o1) s1 hq (fun m2 o2 s2 => hK1 m2 _ _ (offM_tr o1 o2) s2 l0 hnx.2.1 (by show 1 ≤ _; omega) ⟨evp_mono (evp_fact ht hj hpr) (by omega), fun C' S => str_1 ?_⟩))
              · rw [e1']
                show ((10000 : Int32) + nI j).toInt = _
                rw [show (10000 : Int32) = nI 10000 from rfl, nI_add, nI_toInt (by omega)]
                omega
              · show smA T tk q C' S o = _
                rw [em, hw, hpr]
      rw [hs.2.2.2.2.2.2.2.2.2]
      by_cases h3 : tk = 3
      · rw [if_pos h3]
        refine ineg (by decide) (ite_go (fun w6 => ipos w6 (of (-13) 60 (by decide) h3 (Or.inl w6) (by rw [if_pos w6]) (Or.inl rfl))) (fun w6 => ite_go (fun w8 => ineg w6 (of (-14) 61 (by decide) h3 (Or.inr w8) (by rw [if_neg w6]) (Or.inr rfl))) (fun w8 => fact (fun z => by rcases z.2 with z | z; exact w6 z; exact w8 z))))
      · rw [if_neg h3]
        exact ipos rfl (fact (fun z => h3 z.1))
theorem c_all {T : dT} {tk a r s : Nat} (h0 : cX0 a r) (ht : tk < 4) : ∀ k, PART T tk a r s k ∧ SUM T tk a r s k
  | 0 => by
    have hp := c_part (k := 0) (T := T) (s := s) h0 ht (fun k' e => by omega)
    exact ⟨hp, c_sum h0 (c_prod h0 hp)⟩
  | k + 1 => by
    have ih := c_all (T := T) (s := s) h0 ht k
    have hp := c_part (k := k + 1) (T := T) (s := s) h0 ht (fun k' e => by
      obtain rfl : k' = k := by omega
      exact ⟨ih.2, ih.1⟩)
    exact ⟨hp, c_sum h0 (c_prod h0 hp)⟩
