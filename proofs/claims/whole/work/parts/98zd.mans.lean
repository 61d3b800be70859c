/-! ===== the reference answers a question ===== -/
def wTkz (c j : Nat) : Prop := c = 164 ∧ (j = 112 ∨ j = 113)
theorem m_takesZ {d kd h : Nat} {a x : Int64} {any : Bool} {v : Int} {M : mm_M} {K : mm_M → Prop} (hG : mm_G M.2.2) (hkd : kd < 6) (hh : h < 7) (hx : x = Int64.ofInt v) (h01 : kd < 3 → v = 0 ∨ v = 1) (h112 : M.2.1 164 112 = a) (h113 : M.1 164 113 = if any then 0 else 1) (hK : ∀ m, offM wTkz M m → m.2.1 164 112 = joinQ kd a any h v → m.1 164 113 = 0 → K m) : mm_CV mX12_qTakes d [.ref 164, .int (nI kd), .long x, .int (nI h)] M K := by
  have eh : (nI h).toInt64 = lN h := by
    rw [i64_eq, i64_of, nI_toInt (by omega), pk_lT (by omega)]
  have up : ∀ z : Int64, offM wTkz M (mm_uL M 164 112 z) := fun z => offM_uL ⟨rfl, Or.inl rfl⟩
  have fin : ∀ m, offM wTkz M m → m.2.1 164 112 = joinQ kd a any h v → K (mm_uI m 164 113 0) := fun m o e => hK _ (offM_tr o (offM_uI ⟨rfl, Or.inr rfl⟩)) e (uI_at _ _ _ _)
  have G : ∀ m, offM wTkz M m → mm_G m.2.2 := fun m o => by rw [o.2.2]; exact hG
  have one0 : ¬ (Int64.ofInt 0) = 1 := by decide
  have one1 : (Int64.ofInt 1) = 1 := by decide
  subst hx
  refine rX12_qTakes hG ?_
  unfold joinQ at hK fin
  match kd, hkd, h01 with
  | 0, _, h01 =>
    have l9 : ∀ m z, offM wTkz M m → m.2.1 164 112 = (if a = -1 then (if v = 0 then a else lN h) else a) → jX12_qTakes_55 d (nI 0) (Int64.ofInt v) (nI h) m K (nI 0) (Int64.ofInt v) z := fun m z o e => lX12_qTakes_55 (G m o) (ineg (by decide) (ineg (by decide) (lX12_qTakes_90 (G m o) (ipos (by decide) (fin m o (by rw [if_pos rfl]; exact e))))))
    refine ineg (by decide) ?_
    rcases h01 (by omega) with rfl | rfl
    · exact ineg one0 (lX12_qTakes_16 hG (ipos rfl (ipos rfl (ineg (by decide) (l9 M _ offM_rf (by rw [h112, if_pos rfl, ite_self]))))))
    · refine ipos one1 (lX12_qTakes_16 hG (ipos rfl (ineg (by decide) ?_)))
      rw [h112, eh]
      refine ite_go (fun c => l9 _ _ (up _) (by rw [uL_at, if_pos c, if_neg (by decide)])) (fun c => ineg (by decide) (l9 M _ offM_rf (by rw [h112, if_neg c])))
  | 1, _, h01 =>
    have l9 : ∀ m z, offM wTkz M m → m.2.1 164 112 = (if v = 0 then a else lN h) → jX12_qTakes_55 d (nI 1) (Int64.ofInt v) (nI h) m K (nI 1) (Int64.ofInt v) z := fun m z o e => lX12_qTakes_55 (G m o) (ineg (by decide) (ineg (by decide) (lX12_qTakes_90 (G m o) (ipos (by decide) (fin m o (by rw [if_neg (by decide), if_pos rfl]; exact e))))))
    refine ineg (by decide) ?_
    rcases h01 (by omega) with rfl | rfl
    · exact ineg one0 (lX12_qTakes_16 hG (ineg (by decide) (ipos rfl (ipos rfl (l9 M _ offM_rf (by rw [h112, if_pos rfl]))))))
    · refine ipos one1 (lX12_qTakes_16 hG (ineg (by decide) (ipos rfl (ineg (by decide) ?_))))
      rw [eh]
      exact l9 _ _ (up _) (by rw [uL_at, if_neg (by decide)])
  | 2, _, h01 =>
    have l9 : ∀ m, offM wTkz M m → m.2.1 164 112 = a + Int64.ofInt v → jX12_qTakes_90 d (nI 2) (Int64.ofInt v) (nI h) m K (nI 2) (Int64.ofInt v) := fun m o e => lX12_qTakes_90 (G m o) (ipos (by decide) (fin m o (by rw [if_neg (by decide), if_neg (by decide), if_pos (Or.inl rfl)]; exact e)))
    refine ineg (by decide) ?_
    rcases h01 (by omega) with rfl | rfl
    · refine ineg one0 (lX12_qTakes_16 hG (ineg (by decide) (ineg (by decide) (lX12_qTakes_55 hG (ipos rfl (ipos rfl (ineg (by decide) (l9 M offM_rf ?_))))))))
      rw [h112, show Int64.ofInt 0 = 0 from rfl, Int64.add_zero]
    · refine ipos one1 (lX12_qTakes_16 hG (ineg (by decide) (ineg (by decide) (lX12_qTakes_55 hG (ipos rfl (ineg (by decide) (ineg (by decide) (l9 _ (up _) ?_))))))))
      rw [uL_at, h112, one1]
  | 3, _, h01 =>
    have l9 : ∀ m, offM wTkz M m → m.2.1 164 112 = a + Int64.ofInt v → jX12_qTakes_90 d (nI 3) (Int64.ofInt v) (nI h) m K (nI 3) (Int64.ofInt v) := fun m o e => lX12_qTakes_90 (G m o) (ipos (by decide) (fin m o (by rw [if_neg (by decide), if_neg (by decide), if_pos (Or.inr rfl)]; exact e)))
    refine ipos (by decide) (lX12_qTakes_16 hG (ineg (by decide) (ineg (by decide) (lX12_qTakes_55 hG (ineg (by decide) (ipos rfl (l9 _ (up _) ?_)))))))
    rw [uL_at, h112]
  | 4, _, h01 =>
    refine ipos (by decide) (lX12_qTakes_16 hG (ineg (by decide) (ineg (by decide) (lX12_qTakes_55 hG (ineg (by decide) (ineg (by decide) (lX12_qTakes_90 hG (ineg (by decide) ?_))))))))
    rw [h112, h113]
    have fin : ∀ m, offM wTkz M m → m.2.1 164 112 = (if any then (if Int64.ofInt v < a then a else Int64.ofInt v) else Int64.ofInt v) → K (mm_uI m 164 113 0) := fun m o e => fin m o (by rw [if_neg (by decide), if_neg (by decide), if_neg (by decide), if_pos rfl]; exact e)
    cases any with
    | true =>
      refine ipos rfl (ipos rfl (ite_go (fun c => fin M offM_rf ?_) (fun c => fin _ (up _) ?_)))
      · rw [h112, if_pos rfl]
        by_cases c2 : Int64.ofInt v < a
        · rw [if_pos c2]
        · rw [if_neg c2]
          exact i64_eq.mpr (by have := i64_le.mp c; have := mt i64_lt.mpr c2; omega)
      · rw [uL_at, if_pos rfl, if_neg (fun c2 => c (i64_le.mpr (by have := i64_lt.mp c2; omega)))]
    | false =>
      exact ineg (by decide) (fin _ (up _) (by rw [uL_at, if_neg (by decide)]))
  | 5, _, h01 =>
    refine ipos (by decide) (lX12_qTakes_16 hG (ineg (by decide) (ineg (by decide) (lX12_qTakes_55 hG (ineg (by decide) (ineg (by decide) (lX12_qTakes_90 hG (ineg (by decide) ?_))))))))
    rw [h112, h113]
    have fin : ∀ m, offM wTkz M m → m.2.1 164 112 = (if any then (if Int64.ofInt v < a then Int64.ofInt v else a) else Int64.ofInt v) → K (mm_uI m 164 113 0) := fun m o e => fin m o (by rw [if_neg (by decide), if_neg (by decide), if_neg (by decide), if_neg (by decide)]; exact e)
    cases any with
    | true =>
      refine ipos rfl (ineg (by decide) (ite_go (fun c => fin M offM_rf ?_) (fun c => fin _ (up _) ?_)))
      · rw [h112, if_pos rfl, if_neg (fun c2 => by have := i64_lt.mp c2; have := i64_le.mp c; omega)]
      · rw [uL_at, if_pos rfl, if_pos (i64_lt.mpr (by have := mt i64_le.mpr c; omega))]
    | false =>
      exact ineg (by decide) (fin _ (up _) (by rw [uL_at, if_neg (by decide)]))
def wAn (c j : Nat) : Prop := (c = 164 ∧ (j = 52 ∨ j = 53 ∨ j = 111 ∨ j = 112 ∨ j = 113)) ∨ c = 241
theorem m_answerQ {d kd : Nat} {U : dU} {N : dN} {C : List Nat} {M : mm_M} {K : Int64 → mm_M → Prop} (hG : mm_G M.2.2) (hU : mU U M) (hN : mN N M) (vu : vU U) (vn : vN U N) (hkd : kd < 6) (h105 : M.1 164 105 = nI C.length) (hc : ∀ (j c : Nat), C[j]? = some c → M.1 239 j = nI c) (hC : C.length ≤ 1600) (he : evp 3 44 (decide (kd < 3)) C) (ht : ∀ i v : Nat, i < U.2.1 → v < U.2.1 → M.2.1 201 (7 * i + v) = (tQ U N i v).toInt64) (h112 : M.2.1 164 112 = if kd < 2 then -1 else 0) (h113 : M.1 164 113 = 1) (hK : ∀ m, offM wAn M m → K (ansQ kd U N C U.2.1).1 m) : jX12_ask_253 (d + 7) M K (nI kd) 0 := by
  have hu7 := vu.2.1
  have st : ∀ m, offM wAn M m → mm_G m.2.2 ∧ mU U m ∧ mN N m := fun m o => ⟨by rw [o.2.2]; exact hG, mU_off hU o (fun c j q => by unfold wAn at q; omega), mN_off hN o (fun c j q => by unfold wAn at q; omega)⟩
  have loop : ∀ (k n : Nat) (m : mm_M), n + k = U.2.1 → offM wAn M m → m.2.1 164 112 = (ansQ kd U N C n).1 → m.1 164 113 = (if (ansQ kd U N C n).2 then 0 else 1) → jX12_ask_253 (d + 7) m K (nI kd) (nI n) := by
    intro k
    induction k with
    | zero =>
      intro n m hn o e1 e2
      obtain rfl : n = U.2.1 := by omega
      obtain ⟨w1, w2, w3⟩ := st m o
      refine lX12_ask_253 w1 (m_houseMany w1 ?_)
      rw [w2.2.1, e1]
      exact ipos (nI_le (Nat.le_refl _) (by omega)) (hK m o)
    | succ k ih =>
      intro n m hn o e1 e2
      obtain ⟨w1, w2, w3⟩ := st m o
      have hn7 : n < 7 := by omega
      have ih := ih (n + 1)
      rw [ansQ_1] at ih
      refine lX12_ask_253 w1 (m_houseMany w1 ?_)
      rw [w2.2.1, nI_1]
      refine ineg (nI_ge (by omega) (by omega)) (m_isThere w1 w3 hn7 ?_)
      by_cases ct : N.2.1.testBit n = true
      · rw [if_pos ct]
        have es : stQ kd U N C (ansQ kd U N C n) n = (joinQ kd (ansQ kd U N C n).1 (ansQ kd U N C n).2 n (vQ U N C n), true) := by unfold stQ; rw [if_pos ct]
        rw [es] at ih
        refine ineg (by decide) ?_
        have o2 : offM wAn m (mm_uI (mm_uI m 164 52 (nI n)) 164 53 (nI n)) := offM_tr (offM_uI (by unfold wAn; omega)) (offM_uI (by unfold wAn; omega))
        have g52 : (mm_uI (mm_uI m 164 52 (nI n)) 164 53 (nI n)).1 164 52 = nI n := by rw [uI_j (by decide), uI_at]
        have g53 : (mm_uI (mm_uI m 164 52 (nI n)) 164 53 (nI n)).1 164 53 = nI n := uI_at _ _ _ _
        have g113 : (mm_uI (mm_uI m 164 52 (nI n)) 164 53 (nI n)).1 164 113 = m.1 164 113 := by rw [uI_j (by decide), uI_j (by decide)]
        have g112 : (mm_uI (mm_uI m 164 52 (nI n)) 164 53 (nI n)).2.1 164 112 = m.2.1 164 112 := rfl
        have g201 : ∀ j, (mm_uI (mm_uI m 164 52 (nI n)) 164 53 (nI n)).2.1 201 j = m.2.1 201 j := fun _ => rfl
        generalize mm_uI (mm_uI m 164 52 (nI n)) 164 53 (nI n) = m1 at o2 g52 g53 g113 g112 g201 ⊢
        have o1 := offM_tr o o2
        obtain ⟨x1, x2, x3⟩ := st m1 o1
        obtain ⟨fl, hev, hfl⟩ := evQ (U := U) (N := N) (h := n) he (by omega)
        have hgd : gs [(vQ U N C n, fl)] := evl_good (fQ_ok (U := U) (N := N) (h := n) vu vn hn7) (fun t a v hv => by
          unfold ofQ at hv
          by_cases t13 : t = -13
          · rw [if_pos t13] at hv
            rw [← Option.some.inj hv]
            split
            · have := vn.2.2.2.2.1 n a.toNat
              unfold inI at this
              unfold okz; omega
            · unfold okz; omega
          · rw [if_neg t13] at hv
            by_cases t14 : t = -14
            · rw [if_pos t14] at hv
              rw [← Option.some.inj hv]
              split
              · have := tQ_in (U := U) (N := N) (h := n) (b := a.toNat)
                unfold okz; omega
              · unfold okz; omega
            · rw [if_neg t14] at hv; cases hv) _ _ _ hev (fun q hq => by cases hq)
        have hg1 := hgd _ List.mem_cons_self
        refine m_toldQ (d := d + 1) x1 x2 x3 vu vn (by omega) (by rw [o1.1 _ _ (by unfold wAn; omega)]; exact h105) (fun j c hj => by rw [o1.1 _ _ (by unfold wAn; omega)]; exact hc j c hj) hC he.1 g52 g53 (fun i v hi hv => by rw [o1.2.1 _ _ (by unfold wAn; omega)]; exact ht i v hi hv) hev (fun m2 z o3 hz => ?_)
        have o3' : offM wAn m1 m2 := offM_mono o3 (fun c j q => by unfold wTz at q; unfold wAn; omega)
        have o4 := offM_tr o1 o3'
        refine m_takesZ (a := (ansQ kd U N C n).1) (any := (ansQ kd U N C n).2) (v := vQ U N C n) (by rw [o4.2.2]; exact hG) hkd hn7 ?_ (fun hk3 => hg1.2 (hfl (decide_eq_true hk3))) (by rw [o3.2.1 _ _ (by unfold wTz; omega), g112]; exact e1) (by rw [o3.1 _ _ (by unfold wTz; omega), g113]; exact e2) (fun m3 o5 e5 e6 => ih m3 (by omega) (offM_tr o4 (offM_mono o5 (fun c j q => by unfold wTkz at q; unfold wAn; omega))) e5 e6)
        have hok := hg1.1
        unfold okz at hok
        rw [i64_eq, hz, Int64.toInt_ofInt, bm64 (by omega) (by omega)]
      · rw [if_neg ct]
        have es : stQ kd U N C (ansQ kd U N C n) n = ansQ kd U N C n := by unfold stQ; rw [if_neg ct]
        rw [es] at ih
        exact ipos rfl (ih m (by omega) o e1 e2)
  exact loop U.2.1 0 M (by omega) offM_rf h112 h113
def wAz (c j : Nat) : Prop := (c = 164 ∧ (j = 7 ∨ j = 8 ∨ j = 49 ∨ j = 52 ∨ j = 53 ∨ j = 54 ∨ j = 55 ∨ j = 111 ∨ j = 112 ∨ j = 113)) ∨ c = 201 ∨ c = 241
theorem m_133Ok {T : dT} {d kd q' : Nat} {U : dU} {N : dN} {C : List Nat} {M : mm_M} {K : Int64 → mm_M → Prop} (hG : mm_G M.2.2) (hU : mU U M) (hN : mN N M) (vu : vU U) (vn : vN U N) (hkd : kd < 6) (s : mQs T 3 q' C [] [] 0 M) (hC : C.length ≤ 1600) (he : evp 3 44 (decide (kd < 3)) C) (hK : ∀ m, offM wAz M m → m.1 164 7 = 0 → m.1 164 8 = -1 → K (ansQ kd U N C U.2.1).1 m) : jX12_ask_133 (d + 7) M K (nI kd) := by
  obtain ⟨p, h1, h5, h6, -⟩ := s.1
  refine lX12_ask_133 hG ?_
  rw [h5, uI_j (by decide), uI_j (by decide), uI_j (by decide), h5, h6]
  have o1 : offM wAz M (mm_uI (mm_uI M 164 7 0) 164 8 (-1)) := offM_tr (offM_uI (by unfold wAz; omega)) (offM_uI (by unfold wAz; omega))
  have g7 : (mm_uI (mm_uI M 164 7 0) 164 8 (-1)).1 164 7 = 0 := by rw [uI_j (by decide), uI_at]
  have g8 : (mm_uI (mm_uI M 164 7 0) 164 8 (-1)).1 164 8 = -1 := uI_at _ _ _ _
  generalize mm_uI (mm_uI M 164 7 0) 164 8 (-1) = m1 at o1 g7 g8 ⊢
  refine ipos rfl ?_
  have go : ∀ z : Int64, z = (if kd < 2 then -1 else 0) → jX12_ask_183 (d + 7) (mm_uI (mm_uL m1 164 112 z) 164 113 1) K (nI kd) 0 := fun z hz => by
    have o2 : offM wAz m1 (mm_uI (mm_uL m1 164 112 z) 164 113 1) := offM_tr (offM_uL (by unfold wAz; omega)) (offM_uI (by unfold wAz; omega))
    have i7 : (mm_uI (mm_uL m1 164 112 z) 164 113 1).1 164 7 = 0 := by rw [uI_j (by decide)]; exact g7
    have i8 : (mm_uI (mm_uL m1 164 112 z) 164 113 1).1 164 8 = -1 := by rw [uI_j (by decide)]; exact g8
    have i113 : (mm_uI (mm_uL m1 164 112 z) 164 113 1).1 164 113 = 1 := uI_at _ _ _ _
    have i112 : (mm_uI (mm_uL m1 164 112 z) 164 113 1).2.1 164 112 = z := uL_at _ _ _ _
    generalize mm_uI (mm_uL m1 164 112 z) 164 113 1 = m2 at o2 i7 i8 i113 i112 ⊢
    have o2' := offM_tr o1 o2
    have st : ∀ m, offM wAz M m → mm_G m.2.2 ∧ mU U m ∧ mN N m := fun m o => ⟨by rw [o.2.2]; exact hG, mU_off hU o (fun c j q => by unfold wAz at q; omega), mN_off hN o (fun c j q => by unfold wAz at q; omega)⟩
    obtain ⟨x1, x2, x3⟩ := st m2 o2'
    refine m_tastes x1 x2 x3 vu vn (fun m3 o3 t3 => ?_)
    have o4 : offM (fun c j => wTa c j ∨ (c = 164 ∧ j = 49)) m2 (mm_uI m3 164 49 3) := offM_tr (offM_mono o3 (fun c j q => Or.inl q)) (offM_uI (Or.inr ⟨rfl, rfl⟩))
    have o4' : offM wAz M (mm_uI m3 164 49 3) := offM_tr o2' (offM_mono o4 (fun c j q => by unfold wTa wA at q; unfold wAz; omega))
    obtain ⟨y1, y2, y3⟩ := st _ o4'
    refine m_answerQ y1 y2 y3 vu vn hkd (by rw [o4'.1 _ _ (by unfold wAz; omega)]; exact s.2.1) (fun j c hj => by rw [o4'.1 _ _ (by unfold wAz; omega)]; exact s.2.2.1 j c hj) hC he t3 (by rw [o4.2.1 _ _ (by unfold wTa wA; omega), i112, hz]) (by rw [o4.1 _ _ (by unfold wTa wA; omega)]; exact i113) (fun m5 o5 => hK m5 (offM_tr o4' (offM_mono o5 (fun c j q => by unfold wAn at q; unfold wAz; omega))) ?_ ?_)
    · rw [o5.1 _ _ (by unfold wAn; omega), o4.1 _ _ (by unfold wTa wA; omega)]; exact i7
    · rw [o5.1 _ _ (by unfold wAn; omega), o4.1 _ _ (by unfold wTa wA; omega)]; exact i8
  by_cases c : kd < 2
  · exact ineg (nI_ge (b := 2) c (by decide)) (go _ (by rw [if_pos c]))
  · exact ipos (nI_le (a := 2) (by omega) (by omega)) (go _ (by rw [if_neg c]))
theorem m_133X {d k p : Nat} {z : Int32} {M : mm_M} {K : Int64 → mm_M → Prop} (hG : mm_G M.2.2) (x : mXs k p M) (hK : ∀ m, offM wAz M m → m.1 164 7 = nI k → m.1 164 8 = nI p → K (-1000000000000000) m) : jX12_ask_133 d M K z := by
  refine lX12_ask_133 hG ?_
  rw [uI_j (by decide), uI_j (by decide), uI_j (by decide)]
  refine ineg (mXn0 x) (hK _ (offM_tr (offM_uI (by unfold wAz; omega)) (offM_uI (by unfold wAz; omega))) ?_ ?_)
  · rw [uI_j (by decide), uI_at]; exact x.1
  · rw [uI_at]; exact x.2.1
