/-! ===== letter, kept ===== -/
theorem lN_0 : lN 0 = 0 := rfl
theorem lN_I {n : Nat} (h : n < 2 ^ 31) : (lN n).toInt32 = nI n := by
  rw [i32_eq, Int64.toInt_toInt32, lN_toInt h, nI_toInt h, bm32 (by omega) (by omega)]
theorem nameN_le {f : Nat → Int32} {n : Nat} (h : ∀ k, k < n → inI 1 26 (f k)) : nameN f n < 27 ^ n := by
  induction n with
  | zero => exact Nat.one_pos
  | succ n ih =>
    have ih := ih (fun k hk => h k (by omega))
    have hn := h n (by omega)
    unfold inI at hn
    show 27 * nameN f n + (f n).toInt.toNat < 27 ^ (n + 1)
    rw [Nat.pow_succ]
    omega
theorem nameN_lt {f : Nat → Int32} {n : Nat} (h : ∀ k, k < n → inI 1 26 (f k)) (hn : n ≤ 6) : nameN f n < 2 ^ 31 := by
  have h1 := nameN_le h
  have h2 : 27 ^ n ≤ 27 ^ 6 := Nat.pow_le_pow_right (by decide) hn
  have h3 : 27 ^ 6 < 2 ^ 31 := by decide
  omega
theorem nameN_div {f : Nat → Int32} {n : Nat} (h : inI 1 26 (f n)) : nameN f (n + 1) / 27 = nameN f n ∧ nameN f (n + 1) % 27 = (f n).toInt.toNat ∧ 0 < nameN f (n + 1) := by
  unfold inI at h
  have e : nameN f (n + 1) = 27 * nameN f n + (f n).toInt.toNat := rfl
  rw [e]
  omega
theorem s5 : lw_S5 Inv := by
  intro u M x1 x2 hu hG hI
  refine stepI hI (fun a hv hc hm => ?_)
  have vu := hv.2.1.1
  by_cases ch : isH a.2.1.2.1.2.1 x1
  · rcases ix_of (x := x2) (n := 6) (by decide) with ⟨k, hk, rfl⟩ | hno
    · obtain ⟨h, hh, h7, rfl⟩ := isH_nI ch vu.2.1
      refine ⟨a.2.1.2.2.1 h k, a, VV_up hv, ?_, fun m hGm hmm => ?_⟩
      · refine rX11_letter hG (c_isHouse hG hc.2.1 vu.2.1 (fun _ => ineg (by decide) (ineg (nI_pos (by omega)) (ipos (nI_lt (b := 6) hk (by decide)) ?_))) (fun q => absurd ch q))
        have e6 : nI h * 6 = nI (h * 6) := pk_mul h 6
        rw [e6, nI_add, nI_clamp (by omega), Nat.mul_comm h 6]
        exact ⟨_, hc.2.1.1, hc.2.1.2.2.2.1, vp_in_nI (by omega) (by decide), c_of hc (hc.2.1.2.2.2.2.2.2.2.2.1 h k hh hk)⟩
      · have e0 : (0 : Int64).toInt = 0 := rfl
        have e5 : (5 : Int64).toInt = 5 := rfl
        refine rX12_letter hGm (m_isHouseI hGm hmm.2.1.2.1 vu.2.1 (fun _ => ineg (by decide) (m_isIn hGm (fun _ => ineg (by decide) ?_) (fun q => ?_))) (fun q => absurd ch q))
        · obtain ⟨n, n1, n2, n3, n4, n5⟩ := hmm.2.1.2.2.2 h hh
          rw [n7, nI_clamp (by omega), n5]
          refine ⟨vp_in_nI (by omega) (by decide), ?_⟩
          have L2 : ∀ (j q : Nat), q = k + j → q < n → jX12_letter_74 899 (nI h) (nI k) m (mQ a (a.2.1.2.2.1 h k) m) (nI k) (lN (nameN (a.2.1.2.2.1 h) (q + 1))) (nI q) := by
            intro j
            induction j with
            | zero =>
              intro q hq hqn
              obtain rfl : q = k := by omega
              obtain ⟨d1, d2, d3⟩ := nameN_div (f := a.2.1.2.2.1 h) (n3 q hqn)
              have hlt := nameN_lt (f := a.2.1.2.2.1 h) (n := q + 1) (fun i hi => n3 i (by omega)) (by omega)
              have hr : lN (nameN (a.2.1.2.2.1 h) (q + 1)) - lN (nameN (a.2.1.2.2.1 h) (q + 1)) / 27 * 27 = lN (nameN (a.2.1.2.2.1 h) (q + 1) % 27) := pk_lRem (b := 27) (by omega) (by decide) (by decide)
              refine lX12_letter_74 hGm (ipos (nI_le (Nat.le_refl _) (by omega)) ?_)
              rw [hr, d2, lN_I (by have := n3 q hqn; unfold inI at this; omega)]
              refine m_of hmm (i32_nI ?_).symm
              have := n3 q hqn
              unfold inI at this
              omega
            | succ j ih =>
              intro q hq hqn
              obtain ⟨q', rfl⟩ : ∃ q', q = q' + 1 := ⟨q - 1, by omega⟩
              obtain ⟨d1, d2, d3⟩ := nameN_div (f := a.2.1.2.2.1 h) (n3 (q' + 1) hqn)
              have hlt := nameN_lt (f := a.2.1.2.2.1 h) (n := q' + 1 + 1) (fun i hi => n3 i (by omega)) (by omega)
              have hd : lN (nameN (a.2.1.2.2.1 h) (q' + 1 + 1)) / 27 = lN (nameN (a.2.1.2.2.1 h) (q' + 1 + 1) / 27) := pk_lDiv (b := 27) (by omega) (by decide) (by decide)
              refine lX12_letter_74 hGm (ineg (nI_ge (by omega) (by omega)) ?_)
              rw [hd, d1, pk_m1]
              exact ih q' (by omega) (by omega)
          have L1 : ∀ (i : Nat), i ≤ n → jX12_letter_39 899 (nI h) (nI k) m (mQ a (a.2.1.2.2.1 h k) m) (nI k) (lN (nameN (a.2.1.2.2.1 h) n)) (nI (n - i)) (lN (nameN (a.2.1.2.2.1 h) i)) := by
            intro i
            induction i with
            | zero =>
              intro hi
              refine lX12_letter_39 hGm (ipos (by show lN 0 ≤ 0; decide) ?_)
              rw [Nat.sub_zero]
              by_cases c : k < n
              · refine ipos (nI_lt c (by omega)) ?_
                obtain ⟨n', rfl⟩ : ∃ n', n = n' + 1 := ⟨n - 1, by omega⟩
                rw [nI_pred]
                exact L2 (n' - k) n' (by omega) (by omega)
              · refine ineg (nI_nlt (by omega) (by omega)) (m_of hmm (n4 k (by omega)).symm)
            | succ i ih =>
              intro hi
              obtain ⟨d1, d2, d3⟩ := nameN_div (f := a.2.1.2.2.1 h) (n3 i (by omega))
              have hlt := nameN_lt (f := a.2.1.2.2.1 h) (n := i + 1) (fun j hj => n3 j (by omega)) (by omega)
              have hd : lN (nameN (a.2.1.2.2.1 h) (i + 1)) / 27 = lN (nameN (a.2.1.2.2.1 h) (i + 1) / 27) := pk_lDiv (b := 27) (by omega) (by decide) (by decide)
              have hp : ¬ lN (nameN (a.2.1.2.2.1 h) (i + 1)) ≤ lN 0 := fun q => by have := (pk_lLE (by omega) (by decide)).mp q; omega
              refine lX12_letter_39 hGm (ineg hp ?_)
              rw [hd, d1, nI_1, show n - (i + 1) + 1 = n - i by omega]
              exact ih (by omega)
          have := L1 n (Nat.le_refl _)
          rw [Nat.sub_self] at this
          exact this
        · rw [i64_of, nI_toInt (by omega), e0, e5] at q
          omega
    · refine ⟨-1, a, VV_up hv, ?_, fun m hGm hmm => ?_⟩
      · refine rX11_letter hG (c_isHouse hG hc.2.1 vu.2.1 (fun _ => ineg (by decide) ?_) (fun q => absurd ch q))
        refine ite_go (fun _ => cQ_same hc) (fun c1 => ineg (fun c2 => hno ?_) (cQ_same hc))
        have e6 : (6 : Int32).toInt = 6 := rfl
        have := mt lt0.mpr c1
        have := i32_lt.mp c2
        omega
      · have e0 : (0 : Int64).toInt = 0 := rfl
        have e5 : (5 : Int64).toInt = 5 := rfl
        refine rX12_letter hGm (m_isHouseI hGm hmm.2.1.2.1 vu.2.1 (fun _ => ineg (by decide) (m_isIn hGm (fun q => ?_) (fun _ => ipos rfl (mQ_same hmm)))) (fun q => absurd ch q))
        rw [i64_of, e0, e5] at q
        omega
  · refine ⟨-1, a, VV_up hv, ?_, fun m hGm hmm => ?_⟩
    · exact rX11_letter hG (c_isHouse hG hc.2.1 vu.2.1 (fun q => absurd q ch) (fun _ => ipos rfl (cQ_same hc)))
    · exact rX12_letter hGm (m_isHouseI hGm hmm.2.1.2.1 vu.2.1 (fun q => absurd q ch) (fun _ => ipos rfl (mQ_same hmm)))
/-! kept -/
def pkN (q : dQ) : Nat := ((q.1.toInt.toNat * 8 + q.2.1) * 8 + q.2.2.1) * 128 + q.2.2.2.toInt.toNat
theorem pk_N {q : dQ} (h : inI 0 999 q.1 ∧ q.2.1 < 7 ∧ q.2.2.1 < 7 ∧ inI 0 99 q.2.2.2) : pk q = nI (pkN q) := by
  unfold pk pkN
  have e1 := i32_nI h.1.1
  have e2 := i32_nI h.2.2.2.1
  have a1 : ∀ n, nI n * 8 = nI (n * 8) := fun n => pk_mul n 8
  have a2 : ∀ n, nI n * 128 = nI (n * 128) := fun n => pk_mul n 128
  conv => lhs; rw [e1, e2]
  rw [a1, nI_add, a1, nI_add, a2, nI_add]
def keptQ (L : List dQ) (k w : Nat) : Int32 := match L[k]? with
  | none => -1
  | some q => if w = 0 then q.1 else if w = 1 then nI q.2.1 else if w = 2 then nI q.2.2.1 else q.2.2.2
theorem s10 : lw_S10 Inv := by
  intro u M x1 x2 hu hG hI
  refine stepI hI (fun a hv hc hm => ?_)
  have vl := hv.2.2.1.1.2.2
  have hcK := hc.2.2.1.2.1
  have hmK := hm.2.2.1.2.1
  have hB : 700 * u < 2 ^ 30 := by omega
  have h40 := hmK.2.1
  rcases ix_of (x := x1) (n := a.2.2.1.2.1.length) (by omega) with ⟨k, hk, rfl⟩ | hno
  · have hq := List.getElem?_eq_getElem hk
    generalize a.2.2.1.2.1[k] = q at hq
    have vq := vl q (List.mem_of_getElem? hq)
    have hpn := pk_N vq
    obtain ⟨v1, v2, v3, v4⟩ := vq
    unfold inI at v1 v4
    have hlt : pkN q < 2 ^ 31 := by unfold pkN; omega
    have cls : ∀ (z : Int32), (x2 = 0 → z = q.1) → (x2 = 1 → z = nI q.2.1) → (x2 = 2 → z = nI q.2.2.1) → (x2 = 3 → z = q.2.2.2) → ((¬ x2 = 0 ∧ ¬ x2 = 1 ∧ ¬ x2 = 2 ∧ ¬ x2 = 3) → z = -1) → mm_CI mX11_kept 900 [.ref 0, .int (nI k), .int x2] M (cQ u a z M) := by
      intro z z0 z1 z2 z3 z4
      refine rX11_kept hG (rX9_toldOfLoaf st37 hG (ineg (nI_pos (by omega)) (c_toldLoaves st37 hG hcK hB (ipos (nI_lt hk (by omega)) (c_toldLoaves st37 hG hcK hB ?_)))))
      obtain ⟨n, h1, h2, h3, h4⟩ := hcK
      have es : nI n - nI a.2.2.1.2.1.length = nI (n - a.2.2.1.2.1.length) := pk_sub (by omega)
      rw [h1, es, nI_add]
      have er : nI (n - a.2.2.1.2.1.length + k) - nI (n - a.2.2.1.2.1.length + k) / 40 * 40 = nI ((n - a.2.2.1.2.1.length + k) % 40) := pk_rem (d := 40) (by omega) (by decide) (by decide)
      have hm40 : (n - a.2.2.1.2.1.length + k) % 40 < 40 := Nat.mod_lt _ (by decide)
      rw [er, nI_clamp (by omega), h4 k q hq, hpn]
      refine ineg (nI_pos (by omega)) ⟨vp_in_nI hm40 (by decide), lX9_toldOfLoaf_43 st37 hG ?_⟩
      have d1 : nI (pkN q) / 8192 = nI (pkN q / 8192) := pk_div (d := 8192) hlt (by decide) (by decide)
      have d2 : nI (pkN q) / 1024 = nI (pkN q / 1024) := pk_div (d := 1024) hlt (by decide) (by decide)
      have d3 : nI (pkN q) / 128 = nI (pkN q / 128) := pk_div (d := 128) hlt (by decide) (by decide)
      have d4 : nI (pkN q / 1024) - nI (pkN q / 1024) / 8 * 8 = nI (pkN q / 1024 % 8) := pk_rem (d := 8) (Nat.lt_of_le_of_lt (Nat.div_le_self _ _) hlt) (by decide) (by decide)
      have d5 : nI (pkN q / 128) - nI (pkN q / 128) / 8 * 8 = nI (pkN q / 128 % 8) := pk_rem (d := 8) (Nat.lt_of_le_of_lt (Nat.div_le_self _ _) hlt) (by decide) (by decide)
      have d6 : nI (pkN q) - nI (pkN q / 128) * 128 = nI (pkN q % 128) := by
        have := pk_rem (a := pkN q) (d := 128) hlt (by decide) (by decide)
        rw [← d3]; exact this
      rw [d1, d2, d3, d4, d5, d6]
      have f1 : pkN q / 8192 = q.1.toInt.toNat := by unfold pkN; omega
      have f2 : pkN q / 1024 % 8 = q.2.1 := by unfold pkN; omega
      have f3 : pkN q / 128 % 8 = q.2.2.1 := by unfold pkN; omega
      have f4 : pkN q % 128 = q.2.2.2.toInt.toNat := by unfold pkN; omega
      rw [f1, f2, f3, f4]
      refine ite_go (fun e => c_of hc (by rw [z0 e]; exact (i32_nI v1.1).symm)) (fun e0 => ?_)
      refine ite_go (fun e => c_of hc (z1 e).symm) (fun e1 => ?_)
      refine ite_go (fun e => c_of hc (z2 e).symm) (fun e2 => ?_)
      exact ite_go (fun e => c_of hc (by rw [z3 e]; exact (i32_nI v4.1).symm)) (fun e3 => c_of hc (z4 ⟨e0, e1, e2, e3⟩).symm)
    have e0 : (0 : Int64).toInt = 0 := rfl
    have e3 : (3 : Int64).toInt = 3 := rfl
    have t43 : (43 : Int32).toNatClampNeg = 43 := rfl
    have mdl : ∀ (m : mm_M) (z : Int32), mm_G m.2.2 → MM a m → (∀ w, w < 4 → x2 = nI w → m.1 199 (44 + 4 * k + w) = z) → (¬ (0 ≤ x2.toInt ∧ x2.toInt ≤ 3) → z = -1) → mm_CI mX12_kept 900 [.ref 164, .int (nI k), .int x2] m (mQ a z m) := by
      intro m z hGm hmm hz hz2
      refine rX12_kept hGm ?_
      rw [t43, hmm.2.2.1.2.1.1]
      have el : (nI a.2.2.1.2.1.length - 1).toInt64.toInt = (a.2.2.1.2.1.length : Int) - 1 := by
        rw [i64_of, Int32.toInt_sub, nI_toInt (by omega)]
        show ((a.2.2.1.2.1.length : Int) - 1).bmod _ = _
        rw [bm32 (by omega) (by omega)]
      refine m_isIn hGm (fun _ => ineg (by decide) (m_isIn hGm (fun q2 => ineg (by decide) ?_) (fun q2 => ipos rfl (m_of hmm (hz2 (by rw [i64_of, e0, e3] at q2; exact q2)).symm)))) (fun q1 => ?_)
      · rw [i64_of, e0, e3] at q2
        have ex := i32_nI q2.1
        have hw : x2.toInt.toNat < 4 := by omega
        generalize x2.toInt.toNat = w at ex hw
        have e4 : 4 * nI k = nI (4 * k) := pk_mul 4 k
        have e44 : (44 : Int32) + nI (4 * k) = nI (44 + 4 * k) := nI_add 44 _
        rw [ex, e4, e44, nI_add, nI_clamp (by omega)]
        exact ⟨vp_in_nI (by omega) (by decide), m_of hmm (hz w hw ex)⟩
      · rw [i64_of, nI_toInt (by omega), e0, el] at q1
        omega
    have rd : ∀ m, MM a m → m.1 199 (44 + 4 * k) = q.1 ∧ m.1 199 (44 + 4 * k + 1) = nI q.2.1 ∧ m.1 199 (44 + 4 * k + 2) = nI q.2.2.1 ∧ m.1 199 (44 + 4 * k + 3) = q.2.2.2 := fun m hmm => by
      have := hmm.2.2.1.2.1.2.2 k q hq
      rw [show 45 + 4 * k = 44 + 4 * k + 1 by omega, show 46 + 4 * k = 44 + 4 * k + 2 by omega, show 47 + 4 * k = 44 + 4 * k + 3 by omega] at this
      exact this
    have ne : ∀ w w', w < 4 → w' < 4 → x2 = nI w → x2 = nI w' → w = w' := fun w w' h h' e e' => (nI_eq (by omega) (by omega)).mp (e.symm.trans e')
    by_cases c0 : x2 = 0
    · exact ⟨q.1, a, VV_up hv, cls _ (fun _ => rfl) (fun e => by rw [c0] at e; exact absurd e (by decide)) (fun e => by rw [c0] at e; exact absurd e (by decide)) (fun e => by rw [c0] at e; exact absurd e (by decide)) (fun z => absurd c0 z.1), fun m hGm hmm => mdl m _ hGm hmm (fun w hw e => by rw [ne w 0 hw (by decide) e c0]; exact (rd m hmm).1) (fun z => absurd (by rw [c0]; decide) z)⟩
    by_cases c1 : x2 = 1
    · exact ⟨nI q.2.1, a, VV_up hv, cls _ (fun e => absurd e c0) (fun _ => rfl) (fun e => by rw [c1] at e; exact absurd e (by decide)) (fun e => by rw [c1] at e; exact absurd e (by decide)) (fun z => absurd c1 z.2.1), fun m hGm hmm => mdl m _ hGm hmm (fun w hw e => by rw [ne w 1 hw (by decide) e c1]; exact (rd m hmm).2.1) (fun z => absurd (by rw [c1]; decide) z)⟩
    by_cases c2 : x2 = 2
    · exact ⟨nI q.2.2.1, a, VV_up hv, cls _ (fun e => absurd e c0) (fun e => absurd e c1) (fun _ => rfl) (fun e => by rw [c2] at e; exact absurd e (by decide)) (fun z => absurd c2 z.2.2.1), fun m hGm hmm => mdl m _ hGm hmm (fun w hw e => by rw [ne w 2 hw (by decide) e c2]; exact (rd m hmm).2.2.1) (fun z => absurd (by rw [c2]; decide) z)⟩
    by_cases c3 : x2 = 3
    · exact ⟨q.2.2.2, a, VV_up hv, cls _ (fun e => absurd e c0) (fun e => absurd e c1) (fun e => absurd e c2) (fun _ => rfl) (fun z => absurd c3 z.2.2.2), fun m hGm hmm => mdl m _ hGm hmm (fun w hw e => by rw [ne w 3 hw (by decide) e c3]; exact (rd m hmm).2.2.2) (fun z => absurd (by rw [c3]; decide) z)⟩
    · refine ⟨-1, a, VV_up hv, cls _ (fun e => absurd e c0) (fun e => absurd e c1) (fun e => absurd e c2) (fun e => absurd e c3) (fun _ => rfl), fun m hGm hmm => mdl m _ hGm hmm (fun w hw e => ?_) (fun _ => rfl)⟩
      match w, hw, e with
      | 0, _, e => exact absurd e c0
      | 1, _, e => exact absurd e c1
      | 2, _, e => exact absurd e c2
      | 3, _, e => exact absurd e c3
  · refine ⟨-1, a, VV_up hv, ?_, fun m hGm hmm => ?_⟩
    · refine rX11_kept hG (rX9_toldOfLoaf st37 hG (ite_go (fun _ => cQ_same hc) (fun c1 => c_toldLoaves st37 hG hcK hB (ineg (fun c2 => hno ?_) (cQ_same hc)))))
      have := mt lt0.mpr c1
      have := i32_lt.mp c2
      rw [nI_toInt (by omega)] at this
      omega
    · have e0 : (0 : Int64).toInt = 0 := rfl
      have t43 : (43 : Int32).toNatClampNeg = 43 := rfl
      refine rX12_kept hGm ?_
      rw [t43, hmm.2.2.1.2.1.1]
      have el : (nI a.2.2.1.2.1.length - 1).toInt64.toInt = (a.2.2.1.2.1.length : Int) - 1 := by
        rw [i64_of, Int32.toInt_sub, nI_toInt (by omega)]
        show ((a.2.2.1.2.1.length : Int) - 1).bmod _ = _
        rw [bm32 (by omega) (by omega)]
      refine m_isIn hGm (fun q => ?_) (fun _ => ipos rfl (mQ_same hmm))
      rw [i64_of, e0, el] at q
      omega
