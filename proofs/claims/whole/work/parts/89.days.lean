/-! ===== days ===== -/
theorem serveA_lo {U : dU} {N : dN} {rest : Nat} (vu : vU U) (vn : vN U N) : ∀ q ∈ (serveA U N rest).2.2.2, q.1 < 7 ∧ q.2.1 < 7 ∧ inI 0 99 q.2.2 := by
  refine (fold_v (P := fun S : dS => vN U S.1 ∧ ∀ q ∈ S.2.2.2, q.1 < 7 ∧ q.2.1 < 7 ∧ inI 0 99 q.2.2) (fun S i hS => ⟨serveS_v vu hS.1, ?_⟩) _ _ ⟨vn, fun q hq => by cases hq⟩).2
  unfold serveS
  by_cases c : S.1.2.1.testBit i = true
  · rw [if_pos c]
    cases hp : pickA U S.1 i S.2.1 with
    | none => exact hS.2
    | some b =>
      intro q hq
      have hq : q ∈ S.2.2.2 ++ [(b, i, tasteA U S.1 b i)] := hq
      rcases List.mem_append.mp hq with hq | hq
      · exact hS.2 q hq
      · have : q = (b, i, tasteA U S.1 b i) := by simpa using hq
        subst this
        refine ⟨(pickA_some hp).1, ?_, bnd_in _⟩
        have := bit_lt hS.1 c
        have := vu.2.1
        show i < 7
        omega
  · rw [if_neg c]; exact hS.2
theorem keepA_v {L : List dQ} {q : dQ} (h : vL L) (hq : inI 0 999 q.1 ∧ q.2.1 < 7 ∧ q.2.2.1 < 7 ∧ inI 0 99 q.2.2.2) : vL (keepA L q) := by
  intro x hx
  unfold keepA at hx
  rcases List.mem_append.mp (List.mem_of_mem_drop hx) with hx | hx
  · exact h x hx
  · have : x = q := by simpa using hx
    subst this; exact hq
theorem keptA_v {t : Bool} {day : Int32} (hd : inI 0 999 day) : ∀ (lo : List (Nat × Nat × Int32)) (L : List dQ), vL L → (∀ q ∈ lo, q.1 < 7 ∧ q.2.1 < 7 ∧ inI 0 99 q.2.2) → vL (keptA t L day lo) := by
  intro lo L hL hlo
  unfold keptA
  by_cases c : t = true
  · rw [if_pos c]
    induction lo generalizing L with
    | nil => exact hL
    | cons q lo ih =>
      rw [List.map_cons, List.foldl_cons]
      exact ih (keepA L (day, q)) (keepA_v hL ⟨hd, hlo q List.mem_cons_self⟩) (fun x hx => hlo x (List.mem_cons_of_mem _ hx))
  · rw [if_neg c]; exact hL
theorem runM_v {U : dU} {X : dN × List dQ × Nat} (vu : vU U) (vn : vN U X.1) (hd : inI 0 999 X.1.1) (hL : vL X.2.1) : ∀ n : Nat, X.1.1.toInt + n ≤ 999 → vL (runM true U 0 n X).2.1
  | 0, _ => hL
  | n + 1, hn => by
    have ih := runM_v vu vn hd hL n (by omega)
    show vL (keptA true (runM true U 0 n X).2.1 (runM true U 0 n X).1.1 (serveA U (runM true U 0 n X).1 0).2.2.2)
    rw [runM_1, ← daysC_M hd n (by omega)]
    have hv := daysC_v (rest := 0) vu vn n
    have hdd := daysC_day (U := U) (rest := 0) hd n (by omega)
    refine keptA_v ?_ _ _ ih (serveA_lo vu hv)
    unfold inI at *
    omega
theorem c_canPass {d : Nat} {x : Int32} {a : dRU} {N : dN} {M : mm_M} {K : Int32 → mm_M → Prop} (hG : mm_G M.2.2) (hR : cRU a M) (hN : cN 37 N M) (hd : inI 0 999 N.1) (h1 : ∀ n : Nat, a.1 = true → x = nI n → 1 ≤ n → n ≤ 100 → N.1.toInt + n ≤ 999 → K 1 M) (h0 : ¬ (a.1 = true ∧ 1 ≤ x.toInt ∧ x.toInt ≤ 100 ∧ N.1.toInt + x.toInt ≤ 999) → K 0 M) : mm_CI mX11_canPass (d + 1) [.ref 0, .int x] M K := by
  have e1 : (1 : Int32).toInt = 1 := rfl
  have e100 : (100 : Int32).toInt = 100 := rfl
  have e999 : (999 : Int32).toInt = 999 := rfl
  refine rX11_canPass hG (c_hasDuchy hG hR (fun hdu => ineg (by decide) (ite_go (fun c => h0 (fun z => by have := i32_lt.mp c; omega)) (fun c => ite_go (fun c2 => h0 (fun z => by have := i32_lt.mp c2; omega)) (fun c2 => ?_)))) (fun hdu => ipos rfl (h0 (fun z => hdu z.1))))
  have c' := mt i32_lt.mpr c
  have c2' := mt i32_lt.mpr c2
  have hs : (N.1 + x).toInt = N.1.toInt + x.toInt := by
    unfold inI at hd
    rw [Int32.toInt_add, bm32 (by omega) (by omega)]
  rw [hN.1]
  refine ite_go (fun c3 => h0 (fun z => by have := i32_lt.mp c3; omega)) (fun c3 => ?_)
  have c3' := mt i32_lt.mpr c3
  exact h1 x.toInt.toNat hdu (i32_nI (by omega)) (by omega) (by omega) (by omega)
theorem c_days_loop {d r n : Nat} {x1 : Int32} {U : dU} {N : dN} {L : List dQ} {M : mm_M} {K : Int32 → mm_M → Prop} (hG : mm_G M.2.2) (hU : cU r U M) (vu : vU U) (vn : vN U N) (hd : inI 0 999 N.1) (hn : N.1.toInt + n ≤ 999) {B : Nat} (hB : B + 700 < 2 ^ 30) (hn100 : n ≤ 100) (hK : ∀ m, offM (wS 37) M m → cN 37 (daysC U 0 n N) m → cK 37 (runM true U 0 n (N, L, 0)).2.1 (B + 700) m → K (nI (runM true U 0 n (N, L, 0)).2.2) m) : ∀ (k i : Nat) (m : mm_M), i + k = n → offM (wS 37) M m → cN 37 (daysC U 0 i N) m → cK 37 (runM true U 0 i (N, L, 0)).2.1 (B + 7 * i) m → jX11_days_22 (d + 4) x1 m K (nI n) (nI (runM true U 0 i (N, L, 0)).2.2) (nI i) := by
  intro k
  induction k with
  | zero =>
    intro i m hi ho n1 k1
    obtain rfl : i = n := by omega
    exact lX11_days_22 (by rw [ho.2.2]; exact hG) (ipos (nI_le (Nat.le_refl _) (by omega)) (hK m ho n1 (cK_le k1 (by omega))))
  | succ k ih =>
    intro i m hi ho n1 k1
    have hGm : mm_G m.2.2 := by rw [ho.2.2]; exact hG
    refine lX11_days_22 hGm (ineg (nI_ge (by omega) (by omega)) ?_)
    refine c_run (rest := 0) (t := true) st37 hGm (cU_off hU ho (fun c j q => by unfold wS at q; omega)) n1 vu (daysC_v vu vn i) (by decide) (fun m2 R => ?_)
    obtain ⟨o2, n2, -, -, l2, k2⟩ := R
    rw [nI_1, l2, nI_add]
    have e1 : (runM true U 0 i (N, L, 0)).1 = daysC U 0 i N := by rw [runM_1, daysC_M hd i (by omega)]
    have := ih (i + 1) m2 (by omega) (offM_tr ho o2) n2 ?_
    · have e : (runM true U 0 (i + 1) (N, L, 0)).2.2 = (runM true U 0 i (N, L, 0)).2.2 + (serveA U (runM true U 0 i (N, L, 0)).1 0).2.2.2.length := rfl
      rw [e, e1] at this
      exact this
    · show cK 37 (keptA true (runM true U 0 i (N, L, 0)).2.1 (runM true U 0 i (N, L, 0)).1.1 (serveA U (runM true U 0 i (N, L, 0)).1 0).2.2.2) (B + 7 * (i + 1)) m2
      rw [e1]
      have := k2 _ (B + 7 * i) (by omega) k1
      exact cK_le this (by omega)
theorem cST_run {B B' : Nat} {s : dST} {N : dN} {L : List dQ} {M m : mm_M} (hS : cST B s M) (hB : B ≤ B') (ho : offM (wS 37) M m) (hN : cN 37 N m) (hL : cK 37 L B' m) : cST B' (N, L, s.2.2) m := by
  obtain ⟨h1, h2, h3, h4, p, h5, h6, h7⟩ := hS
  refine ⟨hN, hL, h3, by rw [ho.1 _ _ (by unfold wS; omega)]; exact h4, p, h5, by rw [ho.1 _ _ (by unfold wS; omega)]; exact h6, fun k x hx => ?_⟩
  have hm : (p + 19 - k) % 20 < 20 := Nat.mod_lt _ (by decide)
  have := h7 k x hx
  generalize (p + 19 - k) % 20 = i at hm this
  exact ⟨cN_off this.1 ho (fun c j q z => by unfold wS at q; unfold stc at z; omega), cK_le (cK_off this.2 ho (fun c j q z => by unfold wS at q; unfold stc at z; omega)) hB⟩
theorem mST_run {s : dST} {N : dN} {L : List dQ} {M m : mm_M} {W : Nat → Nat → Prop} (hS : mST s M) (ho : offM W M m) (hW : ∀ c j, W c j → ¬ (c = 216 ∨ (c = 164 ∧ (j = 79 ∨ j = 80)))) (hN : mN N m) (hL : mK L m) : mST (N, L, s.2.2) m := by
  obtain ⟨h1, h2, h3, p, h4, h5, h6⟩ := hS
  refine ⟨hN, hL, by rw [ho.1 _ _ (fun q => hW _ _ q (by omega))]; exact h3, p, h4, by rw [ho.1 _ _ (fun q => hW _ _ q (by omega))]; exact h5, fun k x hx => ?_⟩
  have := h6 k x hx
  have g : ∀ j, m.1 216 j = M.1 216 j := fun j => ho.1 _ _ (fun q => hW _ _ q (by omega))
  exact ⟨mN_eq this.1 (fun j _ => g _), mK_eq this.2 (fun j _ _ => g _)⟩
theorem s23 : lw_S23 Inv := by
  intro u M x1 hu hG hI
  refine stepI hI (fun a hv hc hm => ?_)
  have vu := hv.2.1.1
  have vn := hv.2.2.1.1.1
  have hd := hv.2.2.1.1.2.1
  have hV : a.2.2.2.2 < 2 ^ 30 := by have := hv.2.2.2.2; omega
  have t3 : (3 : Int32).toNatClampNeg = 3 := rfl
  by_cases cn : a.2.1.1 = true ∧ 1 ≤ x1.toInt ∧ x1.toInt ≤ 100 ∧ a.2.2.1.1.1.toInt + x1.toInt ≤ 999
  · obtain ⟨hdu, n1, n2, n3⟩ := cn
    have hU := hc.2.1.2.2.2.2.2.2.2.2.2.2 hdu
    obtain ⟨n, hn1, hn, rfl⟩ : ∃ n, 1 ≤ n ∧ n ≤ 100 ∧ x1 = nI n := ⟨x1.toInt.toNat, by omega, by omega, i32_nI (by omega)⟩
    have hsum : a.2.2.1.1.1.toInt + n ≤ 999 := by rw [nI_toInt (by omega)] at n3; exact n3
    have cn' : a.2.1.1 = true ∧ 1 ≤ (nI n).toInt ∧ (nI n).toInt ≤ 100 ∧ a.2.2.1.1.1.toInt + (nI n).toInt ≤ 999 := ⟨hdu, n1, n2, n3⟩
    have hdn := daysC_day (U := a.2.1.2.1) (rest := 0) hd n hsum
    refine ⟨nI (runM true a.2.1.2.1 0 n (a.2.2.1.1, a.2.2.1.2.1, 0)).2.2, actA a a.1 (daysC a.2.1.2.1 0 n a.2.2.1.1, (runM true a.2.1.2.1 0 n (a.2.2.1.1, a.2.2.1.2.1, 0)).2.1, (remA a.2.2.1).2.2), VV_act hv hv.1 ⟨⟨daysC_v vu vn n, ?_, runM_v vu vn hd hv.2.2.1.1.2.2 n hsum⟩, remA_v hv.2.2.1⟩, ?_, fun m hGm hmm => ?_⟩
    · show inI 0 999 (daysC a.2.1.2.1 0 n a.2.2.1.1).1
      unfold inI at *
      omega
    · refine rX11_days hG (c_canPass hG hc.2.1 hc.2.2.1.1 hd (fun n' _ en' _ hn' hs' => ineg (by decide) ?_) (fun z => absurd cn' z))
      refine c_beginAct hG hc.2.2.1 hc.2.2.2.2.1 (fun m1 o1 s1 g18 => ?_)
      have hG1 : mm_G m1.2.2 := by rw [o1.2.2]; exact hG
      refine c_days_loop (d := 895) (L := a.2.2.1.2.1) (N := a.2.2.1.1) (B := 700 * u) hG1 (cU_off hU o1 (fun c j q => by unfold wAct wHi at q; omega)) vu vn hd hsum (by omega) hn (fun m2 o2 n2 k2 => ?_) n 0 m1 (by omega) offM_rf s1.1 s1.2.1
      have s2 : cST (700 * (u + 1)) (daysC a.2.1.2.1 0 n a.2.2.1.1, (runM true a.2.1.2.1 0 n (a.2.2.1.1, a.2.2.1.2.1, 0)).2.1, (remA a.2.2.1).2.2) m2 := cST_run s1 (by omega) o2 n2 (cK_le k2 (by omega))
      have o : offM (fun c j => wAct c j ∨ wS 37 c j) M m2 := offM_tr (offM_mono o1 (fun c j q => Or.inl q)) (offM_mono o2 (fun c j q => Or.inr q))
      refine ⟨rfl, offA_of o (fun c j q => by unfold wAct wHi wS at q; unfold cl; omega), CC_act hc hV (offA_M o) (fun c j q => by unfold wAct wHi wS at q; unfold k1 k5 k9; omega) (cIO_off hc.1 (offA_M o) (fun c j q => by unfold wAct wHi wS at q; omega)) s2 ?_⟩
      rw [o2.1 _ _ (by unfold wS; omega)]; exact g18
    · obtain ⟨d1, d2, d3, d4, d5⟩ := id hmm
      refine rX12_days hGm (m_isAhead (lo := 1) (hi := 100) hGm d2 d3.1 hd (by decide) (by decide) (fun n' _ en' _ hn' _ => ineg (by decide) ?_) (fun z => absurd cn' z))
      refine m_keeps hGm d3 hc.2.2.1.2.2.1 (fun m1 o1 s1 => ?_)
      have o2 : offM (fun c j => c = 164 ∧ j = 58) m1 (mm_uI m1 164 58 0) := offM_uI ⟨rfl, rfl⟩
      have g58 : (mm_uI m1 164 58 0).1 164 58 = nI 0 := uI_at _ _ _ _
      generalize mm_uI m1 164 58 0 = m2 at o2 g58 ⊢
      have s2 := mST_off s1 (offA_M o2) (fun c j q => by omega)
      have o12 : offM (fun c j => wKe c j ∨ (c = 164 ∧ j = 58)) m m2 := offM_tr (offM_mono o1 (fun c j q => Or.inl q)) (offM_mono o2 (fun c j q => Or.inr q))
      refine m_daysGo (rest := 0) (th := false) (L := a.2.2.1.2.1) (c0 := 0) (N := a.2.2.1.1) (by rw [o12.2.2]; exact hGm) (mU_off d2.2.1 o12 (fun c j q => by unfold wKe at q; omega)) s2.1 vu vn hd hn (by decide) (by rw [o12.1 _ _ (by unfold wKe; omega)]; exact d5.2.1) (by rw [o12.1 _ _ (by unfold wKe; omega), d5.1]; rfl) s2.2.1 g58 (fun m3 o3 n3 k3 c3 => ?_)
      rw [days_eq hv hsum] at n3
      have s3 : mST (daysC a.2.1.2.1 0 n a.2.2.1.1, (runM true a.2.1.2.1 0 n (a.2.2.1.1, a.2.2.1.2.1, 0)).2.1, (remA a.2.2.1).2.2) m3 := mST_run s2 o3 (fun c j q => by unfold wE wA at q; omega) n3 k3
      have o : offM (fun c j => wKe c j ∨ (c = 164 ∧ j = 58) ∨ wE c j) m m3 := offM_tr (offM_mono o12 (fun c j q => q.elim Or.inl (fun z => Or.inr (Or.inl z)))) (offM_mono o3 (fun c j q => Or.inr (Or.inr q)))
      exact ⟨c3, offA_of o (fun c j q => by unfold wKe wE wA at q; unfold ml; omega), MM_act hmm (offA_M o) (fun c j q z => by unfold wKe wE wA at q; unfold k4 k8 k10 at z; omega) (mIO_off d1 (offA_M o) (fun c j q => by unfold wKe wE wA at q; omega)) s3⟩
  · refine ⟨-1, (refA a.1 3, a.2), VV_io hv (refA_v hv.1), ?_, fun m hGm hmm => ?_⟩
    · exact rX11_days hG (c_canPass hG hc.2.1 hc.2.2.1.1 hd (fun n' h1 en' h2 h3 h4 => absurd ⟨h1, by rw [en', nI_toInt (by omega)]; omega, by rw [en', nI_toInt (by omega)]; omega, by rw [en', nI_toInt (by omega)]; exact h4⟩ cn) (fun _ => ipos rfl (c_refuse (k := 3) hG hc.1 (by decide) (fun m1 o1 i1 => ⟨rfl, offA_of o1 (fun c j q => by unfold cl; omega), CC_io hc (offA_M o1) (fun c j q => by unfold k1; omega) i1⟩))))
    · obtain ⟨o1, i1⟩ := m_refused hmm.1 (k := 3) (by decide)
      refine rX12_days hGm (m_isAhead (lo := 1) (hi := 100) hGm hmm.2.1 hmm.2.2.1.1 hd (by decide) (by decide) (fun n' h1 en' h2 h3 h4 => absurd ⟨h1, by rw [en', nI_toInt (by omega)]; omega, by rw [en', nI_toInt (by omega)]; omega, by rw [en', nI_toInt (by omega)]; exact h4⟩ cn) (fun _ => ipos rfl (rX12_refuses hGm ?_)))
      rw [t3]
      exact ⟨vp_in_nI (n := 3) (by decide) (by decide), vp_in_nI (n := 3) (by decide) (by decide), rfl, offA_of o1 (fun c j q => by unfold ml; omega), MM_io hmm (offA_M o1) (fun c j q => by unfold k2; omega) i1⟩
