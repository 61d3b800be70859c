/-! ===== the class answers a question: all houses ===== -/
theorem tQ_in {U : dU} {N : dN} {h b : Nat} : -1 ≤ (tQ U N h b).toInt ∧ (tQ U N h b).toInt ≤ 99 := by
  unfold tQ
  split
  · have := bnd_in (val (fL U N b h) (U.2.2.2 1))
    unfold tasteA
    omega
  · decide
theorem fQ_ok {U : dU} {N : dN} {h : Nat} (vu : vU U) (vn : vN U N) (hh : h < 7) : ∀ k v, fQ U N h k = some v → okz v := by
  intro k v hv
  unfold fQ at hv
  by_cases k16 : k = 16
  · rw [if_pos k16] at hv
    have := Option.some.inj hv
    unfold okz; omega
  · rw [if_neg k16] at hv
    by_cases k17 : k = 17
    · rw [if_pos k17] at hv
      have := Option.some.inj hv
      have he : ∀ k, en N h k ≤ 1 := fun k => by unfold en; split <;> omega
      have h0 := he 0
      have h1 := he 1
      have h2 := he 2
      have h3 := he 3
      have h4 := he 4
      have h5 := he 5
      have h6 := he 6
      unfold cntE at this
      unfold okz; omega
    · rw [if_neg k17] at hv
      exact fH_ok vu vn k v hv
theorem c_answerQ {d kd r : Nat} {U : dU} {N : dN} {C : List Nat} {b : Bool} {M : mm_M} {K : Int64 → mm_M → Prop} (hG : mm_G M.2.2) (hU : cU r U M) (hN : cN 37 N M) (vu : vU U) (vn : vN U N) (hkd : kd < 6) (h16 : M.1 16 2 = nI (24 + kd)) (h14 : M.1 17 14 = nI C.length) (hc : ∀ (j c : Nat), C[j]? = some c → (M.1 20 j).toInt = tau (c : Int)) (hC : C.length ≤ 1600) (he : evp 3 44 b C) (hK : ∀ m, offM wTq M m → K (ansQ kd U N C U.2.1).1 m) : mm_CL mX0_answer (d + 6) [.ref 16, .ref 21, .ref 37] M K := by
  have hr := Rl_at hU.2.1
  have hu7 := vu.2.1
  have hth := vN_lt vu vn
  have st : ∀ m, offM wTq M m → mm_G m.2.2 ∧ cU r U m ∧ cN 37 N m := fun m o => ⟨by rw [o.2.2]; exact hG, cU_off hU o (fun c j q => by unfold wTq at q; omega), cN_off hN o (fun c j q => by unfold wTq at q; omega)⟩
  have loop : ∀ (k n : Nat) (m : mm_M), n + k = U.2.1 → offM wTq M m → jX0_answer_43 (d + 5) 37 m K (ansQ kd U N C n).1 (if (ansQ kd U N C n).2 then 1 else 0) (nI n) := by
    intro k
    induction k with
    | zero =>
      intro n m hn o
      obtain rfl : n = U.2.1 := by omega
      obtain ⟨w1, w2, w3⟩ := st m o
      refine lX0_answer_43 st37 w1 ⟨r, w2.1, w2.2.1, ?_⟩
      rw [w2.2.2.2.1]
      exact ipos (nI_le (Nat.le_refl _) (by omega)) (hK m o)
    | succ k ih =>
      intro n m hn o
      obtain ⟨w1, w2, w3⟩ := st m o
      have hn7 : n < 7 := by omega
      have ih := ih (n + 1)
      rw [ansQ_1] at ih
      refine lX0_answer_43 st37 w1 ⟨r, w2.1, w2.2.1, ?_⟩
      rw [w2.2.2.2.1, nI_1]
      refine ineg (nI_ge (by omega) (by omega)) (c_isThere st37 w1 w3.2.1 hth hn7 ?_)
      by_cases ct : N.2.1.testBit n = true
      · rw [if_pos ct]
        have es : stQ kd U N C (ansQ kd U N C n) n = (joinQ kd (ansQ kd U N C n).1 (ansQ kd U N C n).2 n (vQ U N C n), true) := by unfold stQ; rw [if_pos ct]
        rw [es] at ih
        refine ineg (by decide) (c_tellAll (d := d + 1) w1 w2 w3 vu vn hn7 (fun m2 o2 f2 r2 => ?_))
        have o2' := offM_tr o o2
        obtain ⟨y1, y2, y3⟩ := st m2 o2'
        have hF : cF m2 (fQ U N n) := fun k v hv => ⟨(f2 k v hv).1, (f2 k v hv).2, fQ_ok vu vn hn7 k v hv⟩
        have hO : cO m2 (ofQ U N n) := fun t a v hv => by
          unfold ofQ at hv
          by_cases t13 : t = -13
          · rw [if_pos t13] at hv
            have hv := Option.some.inj hv
            refine ⟨?_, Or.inl ⟨t13, ?_⟩⟩
            · rw [← hv]
              split
              · have := vn.2.2.2.2.1 n a.toNat
                unfold inI at this
                unfold okz; omega
              · unfold okz; omega
            · rw [← hv]
              split
              · rw [(r2 a.toNat (by omega)).1]
              · rfl
          · rw [if_neg t13] at hv
            by_cases t14 : t = -14
            · rw [if_pos t14] at hv
              have hv := Option.some.inj hv
              refine ⟨?_, Or.inr ⟨t14, ?_⟩⟩
              · rw [← hv]
                split
                · have := tQ_in (U := U) (N := N) (h := n) (b := a.toNat)
                  unfold okz; omega
                · unfold okz; omega
              · rw [← hv]
                split
                · rw [(r2 a.toNat (by omega)).2]
                · rfl
            · rw [if_neg t14] at hv; cases hv
        obtain ⟨fl, hev, -⟩ := evQ (U := U) (N := N) (h := n) he (by omega)
        have hl : (tas C).length = C.length := List.length_map _
        rw [o2'.1 17 14 (by unfold wTq; omega), h14]
        refine c_value (d := d + 4) (r1 := 20) (n1 := 1608) (i := 0) (e := C.length) (ts := tas C) (by decide +kernel) (by decide) (by decide) y1 hF hO (by omega) (by omega) (fun j t hj => ?_) hev (fun g x hx => ?_)
        · rw [Nat.zero_add, o2'.1 20 j (by unfold wTq; omega)]
          unfold tas at hj
          rw [List.getElem?_map] at hj
          obtain ⟨c, hc1, hc2⟩ := Option.map_eq_some_iff.mp hj
          rw [← hc2]; exact hc j c hc1
        · have o3 : offM wTq M (mm_cI m2 34 g) := offM_tr o2' (offM_cI (fun j => by unfold wTq; omega))
          refine c_joinedQ (d := d + 4) (any := (ansQ kd U N C n).2) (st _ o3).1 hkd (by rw [o3.1 _ _ (by unfold wTq; omega)]; exact h16) hn7 hx ?_
          exact ih _ (by omega) o3
      · rw [if_neg ct]
        have es : stQ kd U N C (ansQ kd U N C n) n = ansQ kd U N C n := by unfold stQ; rw [if_neg ct]
        rw [es] at ih
        exact ipos rfl (ih m (by omega) o)
  have h0 := loop U.2.1 0 M (by omega) offM_rf
  refine rX0_answer st37 hG ?_
  rw [h16]
  have e0 : ansQ kd U N C 0 = (if kd < 2 then -1 else 0, false) := rfl
  rw [e0] at h0
  match kd, hkd with
  | 0, _ => exact ipos rfl (lX0_answer_23 st37 hG (ineg (by decide) h0))
  | 1, _ => exact ineg (by decide) (ipos rfl (lX0_answer_23 st37 hG (ineg (by decide) h0)))
  | 2, _ => exact ineg (by decide) (ineg (by decide) (lX0_answer_23 st37 hG (ipos rfl h0)))
  | 3, _ => exact ineg (by decide) (ineg (by decide) (lX0_answer_23 st37 hG (ipos rfl h0)))
  | 4, _ => exact ineg (by decide) (ineg (by decide) (lX0_answer_23 st37 hG (ipos rfl h0)))
  | 5, _ => exact ineg (by decide) (ineg (by decide) (lX0_answer_23 st37 hG (ipos rfl h0)))
