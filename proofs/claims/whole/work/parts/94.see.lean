/-! ===== see ===== -/
def seeK (f : Nat → Int32) (hs k : Nat) : Prop := (f (3 * k)).toInt ≤ 30 ∧ (f (3 * k + 1)).toInt < hs ∧ ((f (3 * k + 2)).toInt ≤ 99 ∨ f (3 * k + 2) = 255)
def seeOk (f : Nat → Int32) (L hs : Nat) : Prop := 3 ≤ L ∧ L ≤ 48 ∧ L % 3 = 0 ∧ ∀ k, k < L / 3 → seeK f hs k
theorem r3 {n : Nat} (h : n < 2 ^ 31) : nI n - nI n / 3 * 3 = nI (n % 3) := pk_rem (d := 3) h (by decide) (by decide)
theorem d3 {n : Nat} (h : n < 2 ^ 31) : nI n / 3 = nI (n / 3) := pk_div (d := 3) h (by decide) (by decide)
theorem c_take {d L hs : Nat} {f : Nat → Int32} {M : mm_M} {K : Int32 → mm_M → Prop} (hG : mm_G M.2.2) (hf : ∀ j, j < 1600 → M.1 1 j = f j) (hb : ∀ j, inI 0 255 (f j)) (hL : L ≤ 1600) (h8 : hs < 8) (h1 : seeOk f L hs → ∀ m, offM (fun c j => c = 160 ∨ (c = 159 ∧ j = 0)) M m → m.1 159 0 = nI (L / 3) → (∀ j, j < L → m.1 160 j = f j) → K 1 m) (h0 : ¬ seeOk f L hs → K 0 M) : mm_CI mX8_take (d + 1) [.ref 159, .ref 1, .int (nI L), .int (nI hs)] M K := by
  have hr : mm_SH[1]? = some (0, 1600) := rfl
  have t0 : (0 : Int32).toNatClampNeg = 0 := rfl
  refine rX8_take hr hG ?_
  by_cases c1 : L < 3
  · exact ipos (nI_lt (b := 3) c1 (by decide)) (h0 (fun z => by have := z.1; omega))
  refine ineg (nI_nlt (b := 3) (by omega) (by omega)) ?_
  by_cases c2 : 48 < L
  · exact ipos (nI_lt c2 (by omega)) (h0 (fun z => by have := z.2.1; omega))
  refine ineg (nI_nlt (by omega) (by decide)) (ineg (nI_nlt (by omega) (by decide)) ?_)
  rw [r3 (by omega)]
  by_cases c3 : L % 3 = 0
  · refine ipos (by rw [c3]; rfl) ?_
    have e30 : (31 : Int32).toInt = 31 := rfl
    have e99 : (99 : Int32).toInt = 99 := rfl
    have loop : ∀ (k i : Nat), i + k = L / 3 → (∀ q, q < i → seeK f hs q) → jX8_take_31 d 1 1600 (nI L) (nI hs) M K (nI L) (nI hs) (nI (3 * i)) := by
      intro k
      induction k with
      | zero =>
        intro i hi h
        have e2 : nI (3 * i) + 2 = nI (3 * i + 2) := nI_add _ 2
        refine lX8_take_31 hr hG ?_
        rw [e2, t0, nI_clamp (by omega), d3 (by omega)]
        refine ipos (nI_le (by omega) (by omega)) ⟨⟨by decide, by decide, nI_pos (by omega), by omega, by omega⟩, ?_⟩
        refine h1 ⟨by omega, by omega, c3, fun q hq => h q (by omega)⟩ _ (offM_tr (offM_cp (fun j => Or.inl rfl)) (offM_uI (Or.inr ⟨rfl, rfl⟩))) (uI_at _ _ _ _) (fun j hj => ?_)
        rw [uI_c (by decide), cp_at hj]
        exact hf j (by omega)
      | succ k ih =>
        intro i hi h
        have e1 : nI (3 * i) + 1 = nI (3 * i + 1) := nI_add _ 1
        have e2 : nI (3 * i) + 2 = nI (3 * i + 2) := nI_add _ 2
        have e3 : nI (3 * i) + 3 = nI (3 * (i + 1)) := by
          have : nI (3 * i) + 3 = nI (3 * i + 3) := nI_add _ 3
          rw [this]; congr 1
        have val : ∀ w : Int32, (w = 1 ∧ ((f (3 * i + 2)).toInt ≤ 99 ∨ f (3 * i + 2) = 255)) ∨ (w = 0 ∧ ¬ ((f (3 * i + 2)).toInt ≤ 99 ∨ f (3 * i + 2) = 255)) → jX8_take_67 d 1 1600 (nI L) (nI hs) M K (nI L) (nI hs) (nI (3 * i)) w := by
          intro w hw
          refine lX8_take_67 hr hG ?_
          rw [e1, e3, nI_clamp (n := 3 * i) (by omega), nI_clamp (n := 3 * i + 1) (by omega), hf _ (by omega), hf _ (by omega)]
          refine ⟨vp_in_nI (by omega) (by decide), ite_go (fun c => h0 (fun z => ?_)) (fun c => ⟨vp_in_nI (by omega) (by decide), ite_go (fun c' => h0 (fun z => ?_)) (fun c' => ?_)⟩)⟩
          · have := (z.2.2.2 i (by omega)).1; have := i32_le.mp c; omega
          · have := (z.2.2.2 i (by omega)).2.1; have := i32_le.mp c'; rw [nI_toInt (by omega)] at this; omega
          · rcases hw with ⟨rfl, hw⟩ | ⟨rfl, hw⟩
            · refine ineg (by decide) (ih (i + 1) (by omega) (fun q hq => ?_))
              by_cases e : q = i
              · subst e
                refine ⟨by have := mt i32_le.mpr c; omega, ?_, hw⟩
                have := mt i32_le.mpr c'
                rw [nI_toInt (by omega)] at this
                omega
              · exact h q (by omega)
            · exact ipos rfl (h0 (fun z => hw (z.2.2.2 i (by omega)).2.2))
        refine lX8_take_31 hr hG ?_
        rw [e2, nI_clamp (n := 3 * i + 2) (by omega), hf _ (by omega)]
        refine ineg (nI_ge (by omega) (by omega)) ⟨vp_in_nI (by omega) (by decide), ite_go (fun c => val 1 (Or.inl ⟨rfl, Or.inl (i32_le.mp c)⟩)) (fun c => ⟨vp_in_nI (by omega) (by decide), ite_go (fun c' => val 1 (Or.inl ⟨rfl, Or.inr c'⟩)) (fun c' => val 0 (Or.inr ⟨rfl, fun z => z.elim (fun z => c (i32_le.mpr z)) c'⟩))⟩)⟩
    exact loop (L / 3) 0 (by omega) (fun q hq => by omega)
  · exact ineg (fun q => c3 ((nI_eq (b := 0) (by omega) (by decide)).mp q)) (h0 (fun z => c3 z.2.2.1))
theorem m_see {d L : Nat} {f : Nat → Int32} {U : dU} {M M' : mm_M} {K : Int32 → mm_M → Prop} (hG : mm_G M.2.2) (hU : mU U M) (h7 : U.2.1 ≤ 7) (hlen : M'.1 164 1 = nI L) (hM' : mm_uI M' 164 1 0 = M) (hG' : mm_G M'.2.2) (hf : ∀ j, j < 1600 → M.1 165 j = f j) (hb : ∀ j, inI 0 255 (f j)) (hL : L ≤ 1600) (h1 : seeOk f L U.2.1 → ∀ m, offM (fun c j => c = 212 ∨ (c = 164 ∧ j = 72)) M m → m.1 164 72 = nI (L / 3) → (∀ j, j < L → m.1 212 j = f j) → K (nI (L / 3)) m) (h0 : ¬ seeOk f L U.2.1 → K (-1) (mm_uI M 166 1 (M.1 166 1 + 1))) : mm_CI mX12_see (d + 2) [.ref 164] M' K := by
  have t1 : (1 : Int32).toNatClampNeg = 1 := rfl
  have e30 : (30 : Int32).toInt = 30 := rfl
  have e99 : (99 : Int32).toInt = 99 := rfl
  have bad : ¬ seeOk f L U.2.1 → ∀ i : Nat, jX12_see_36 (d + 1) M K (nI L) 0 (nI i) := by
    intro hno i
    have rf : mm_CI mX12_refuses (d + 1) [.ref 164, .int 1] M (fun z117 m117 => K z117 m117) := by
      refine rX12_refuses hG ?_
      rw [t1]
      exact ⟨vp_in_nI (n := 1) (by decide) (by decide), vp_in_nI (n := 1) (by decide) (by decide), h0 hno⟩
    exact lX12_see_36 hG (ite_go (fun _ => ipos rfl rf) (fun _ => ipos rfl (ipos rfl rf)))
  refine rX12_see hG' ?_
  rw [hlen, hM', r3 (by omega), d3 (by omega)]
  by_cases c1 : L = 0
  · exact ipos (by rw [c1]; decide) (bad (fun z => by have := z.1; omega) 0)
  refine ineg (nI_nle (by omega) (by omega)) ?_
  by_cases c3 : L % 3 = 0
  · refine ipos (by rw [c3]; rfl) ?_
    by_cases c2 : 16 < L / 3
    · exact ipos (nI_lt (a := 16) c2 (by omega)) (bad (fun z => by have := z.2.1; omega) 0)
    · refine ineg (nI_nlt (a := 16) (by omega) (by decide)) ?_
      have copy : seeOk f L U.2.1 → ∀ (k i : Nat) (m : mm_M), i + k = L → offM (fun c j => c = 212) M m → (∀ j, j < i → m.1 212 j = f j) → jX12_see_123 (d + 1) m K (nI L) (nI i) := by
        intro hok k
        induction k with
        | zero =>
          intro i m hi o h
          obtain rfl : i = L := by omega
          refine lX12_see_123 (by rw [o.2.2]; exact hG) (ipos (nI_le (Nat.le_refl _) (by omega)) ?_)
          rw [d3 (by omega), uI_at]
          exact h1 hok _ (offM_tr (offM_mono o (fun c j q => Or.inl q)) (offM_uI (Or.inr ⟨rfl, rfl⟩))) (uI_at _ _ _ _) (fun j hj => by rw [uI_c (by decide)]; exact h j hj)
        | succ k ih =>
          intro i m hi o h
          refine lX12_see_123 (by rw [o.2.2]; exact hG) (ineg (nI_ge (by omega) (by omega)) ?_)
          rw [nI_clamp (by omega), nI_1, o.1 165 i (by omega), hf i (by omega)]
          refine ⟨vp_in_nI (by omega) (by decide), vp_in_nI (by omega) (by decide), ih (i + 1) _ (by omega) (offM_tr o (offM_uI rfl)) (fun j hj => ?_)⟩
          by_cases c : j = i
          · subst c; exact uI_at _ _ _ _
          · rw [uI_j c]; exact h j (by omega)
      have loop : ∀ (k i : Nat), i + k = L / 3 → (∀ q, q < i → seeK f U.2.1 q) → jX12_see_36 (d + 1) M K (nI L) 1 (nI (3 * i)) := by
        intro k
        induction k with
        | zero =>
          intro i hi h
          refine lX12_see_36 hG (ipos (nI_le (by omega) (by omega)) (ineg (by decide) ?_))
          exact copy ⟨by omega, by omega, c3, fun q hq => h q (by omega)⟩ L 0 M (by omega) offM_rf (fun j hj => by omega)
        | succ k ih =>
          intro i hi h
          have e1 : nI (3 * i) + 1 = nI (3 * i + 1) := nI_add _ 1
          have e2 : nI (3 * i) + 2 = nI (3 * i + 2) := nI_add _ 2
          have e3 : nI (3 * i) + 3 = nI (3 * (i + 1)) := by
            have : nI (3 * i) + 3 = nI (3 * i + 3) := nI_add _ 3
            rw [this]; congr 1
          refine lX12_see_36 hG (ineg (nI_ge (by omega) (by omega)) (ineg (by decide) ?_))
          rw [e1, e2, e3, nI_clamp (n := 3 * i) (by omega), nI_clamp (n := 3 * i + 1) (by omega), nI_clamp (n := 3 * i + 2) (by omega), hf _ (by omega), hf _ (by omega)]
          have b1 := hb (3 * i + 1)
          unfold inI at b1
          refine ⟨vp_in_nI (by omega) (by decide), ite_go (fun c => bad (fun z => ?_) _) (fun c => ⟨vp_in_nI (by omega) (by decide), m_isHouseI hG hU h7 (fun q => ineg (by decide) ⟨vp_in_nI (by omega) (by decide), ?_⟩) (fun q => ipos rfl (bad (fun z => q ?_) _))⟩)⟩
          · have := (z.2.2.2 i (by omega)).1; have := i32_lt.mp c; omega
          · rw [hf _ (by omega)]
            have good : ((f (3 * i + 2)).toInt ≤ 99 ∨ f (3 * i + 2) = 255) → jX12_see_36 (d + 1) M K (nI L) 1 (nI (3 * (i + 1))) := fun hw => ih (i + 1) (by omega) (fun q' hq => by
              by_cases e : q' = i
              · subst e
                exact ⟨by have := mt i32_lt.mpr c; omega, q.2, hw⟩
              · exact h q' (by omega))
            exact ite_go (fun c' => good (Or.inl (i32_le.mp c'))) (fun c' => ⟨vp_in_nI (by omega) (by decide), ite_go (fun c2 => good (Or.inr c2)) (fun c2 => bad (fun z => (z.2.2.2 i (by omega)).2.2.elim (fun w => c' (i32_le.mpr w)) c2) _)⟩)
          · exact ⟨b1.1, (z.2.2.2 i (by omega)).2.1⟩
      exact loop (L / 3) 0 (by omega) (fun q hq => by omega)
  · exact ineg (fun q => c3 ((nI_eq (b := 0) (by omega) (by decide)).mp q)) (bad (fun z => c3 z.2.2.1) 0)
theorem s18 : lw_S18 Inv := by
  intro u M hu hG hI
  refine stepI hI (fun a hv hc hm => ?_)
  have vu := hv.2.1.1
  have h8 : a.2.1.2.1.2.1 < 8 := by have := vu.2.1; omega
  have hL := hv.1.1
  have hb := hv.1.2.1
  have hV : a.2.2.2.2 < 2 ^ 30 := by have := hv.2.2.2.2; omega
  have o1 : offM (fun c j => c = 0 ∧ j = 1) M (mm_uI M 0 1 0) := offM_uI ⟨rfl, rfl⟩
  have i1 : cIO (lenA a.1 0) (mm_uI M 0 1 0) := cIO_len hc.1
  have r1 : cRU a.2.1 (mm_uI M 0 1 0) := cRU_off hc.2.1 (offA_M o1) (fun c j q => by have := Rl_at hc.2.1.2.2.2.1; omega)
  by_cases ck : seeOk a.1.1 a.1.2.1 a.2.1.2.1.2.1
  · have ck' := ck
    obtain ⟨k1', k2', k3', k4'⟩ := ck
    refine ⟨nI (a.1.2.1 / 3), (lenA a.1 0, a.2.1, a.2.2.1, (a.1.2.1 / 3, a.1.1), a.2.2.2.2 + 1), ⟨⟨Nat.zero_le _, hv.1.2⟩, hv.2.1, hv.2.2.1, ⟨by show a.1.2.1 / 3 ≤ 16; omega, fun k hk => ?_⟩, by have := hv.2.2.2.2; show a.2.2.2.2 + 1 ≤ u + 1; omega⟩, ?_, fun m hGm hmm => ?_⟩
    · have hk := k4' k hk
      have b0 := hb (3 * k)
      have b1 := hb (3 * k + 1)
      have b2 := hb (3 * k + 2)
      unfold seeK at hk
      unfold inI at b0 b1 b2
      refine ⟨⟨b0.1, hk.1⟩, ⟨b1.1, hk.2.1⟩, hk.2.2.elim (fun z => Or.inl ⟨b2.1, z⟩) Or.inr⟩
    · refine rX11_see hG (rX11_takeTape hG ?_)
      rw [hc.1.2.1]
      generalize mm_uI M 0 1 0 = m1 at o1 i1 r1 ⊢
      have hG1 : mm_G m1.2.2 := by rw [o1.2.2]; exact hG
      refine ⟨_, r1.1, r1.2.2.2.1, ?_⟩
      rw [r1.2.2.2.2.2.2.1]
      refine c_take hG1 i1.1 hb hL h8 (fun _ m2 o2 g2 s2 => ineg (by decide) ?_) (fun z => absurd ck' z)
      have e18 : m2.1 0 18 = nI a.2.2.2.2 := by rw [o2.1 _ _ (by omega), o1.1 _ _ (by omega)]; exact hc.2.2.2.2.1
      rw [e18, nI_1, uI_c (c := 159) (by decide), g2]
      have o3 : offM (fun c j => c = 0 ∧ j = 18) m2 (mm_uI m2 0 18 (nI (a.2.2.2.2 + 1))) := offM_uI ⟨rfl, rfl⟩
      have o23 : offM (fun c j => c = 160 ∨ (c = 159 ∧ j = 0) ∨ (c = 0 ∧ j = 18)) m1 (mm_uI m2 0 18 (nI (a.2.2.2.2 + 1))) := offM_tr (offM_mono o2 (fun c j q => by omega)) (offM_mono o3 (fun c j q => by omega))
      have o : offM (fun c j => (c = 0 ∧ j = 1) ∨ c = 160 ∨ (c = 159 ∧ j = 0) ∨ (c = 0 ∧ j = 18)) M (mm_uI m2 0 18 (nI (a.2.2.2.2 + 1))) := offM_tr (offM_mono o1 (fun c j q => Or.inl q)) (offM_mono o23 (fun c j q => Or.inr q))
      have hr := Rl_at hc.2.1.2.2.2.1
      have r2' : cRU a.2.1 (mm_uI m2 0 18 (nI (a.2.2.2.2 + 1))) := cRU_off r1 (offA_M o23) (fun c j q => by omega)
      refine ⟨rfl, offA_of o (fun c j q => by unfold cl; omega), cIO_off i1 (offA_M o23) (fun c j q => by omega), r2', cST_off (cST_le hc.2.2.1 (by omega : 700 * u ≤ 700 * (u + 1))) (offA_M o) (fun c j q => by omega), ⟨?_, fun j hj => ?_⟩, uI_at _ _ _ _, cC_new hc.2.2.2.2.2 hV (offA_M o) (fun c j q => by omega)⟩
      · rw [uI_c (by decide)]; exact g2
      · rw [uI_c (by decide)]; exact s2 j (by have hj : j < 3 * (a.1.2.1 / 3) := hj; omega)
    · obtain ⟨d1, d2, d3', d4, d5⟩ := id hmm
      have p1 : offM (fun c j => c = 164 ∧ j = 1) m (mm_uI m 164 1 0) := offM_uI ⟨rfl, rfl⟩
      have j1 : mIO (lenA a.1 0) (mm_uI m 164 1 0) := mIO_len d1
      refine m_see (M := mm_uI m 164 1 0) (f := a.1.1) hGm (mU_off d2.2.1 p1 (fun c j q => by omega)) vu.2.1 d1.2.1 rfl hGm j1.1 hb hL (fun _ m2 o2 g2 s2 => ?_) (fun z => absurd ck' z)
      have o : offM (fun c j => (c = 164 ∧ j = 1) ∨ c = 212 ∨ (c = 164 ∧ j = 72)) m m2 := offM_tr (offM_mono p1 (fun c j q => Or.inl q)) (offM_mono o2 (fun c j q => Or.inr q))
      exact ⟨rfl, offA_of o (fun c j q => by unfold ml; omega), mIO_off j1 (offA_M o2) (fun c j q => by omega), mRU_off d2 (offA_M o) (fun c j q => by omega), mST_off d3' (offA_M o) (fun c j q => by omega), ⟨g2, fun j hj => s2 j (by have hj : j < 3 * (a.1.2.1 / 3) := hj; omega)⟩, mID_off d5 (offA_M o) (fun c j q => by omega)⟩
  · refine ⟨-1, (refA (lenA a.1 0) 1, a.2), VV_io hv ⟨Nat.zero_le _, hv.1.2⟩, ?_, fun m hGm hmm => ?_⟩
    · refine rX11_see hG (rX11_takeTape hG ?_)
      rw [hc.1.2.1]
      generalize mm_uI M 0 1 0 = m1 at o1 i1 r1 ⊢
      have hG1 : mm_G m1.2.2 := by rw [o1.2.2]; exact hG
      refine ⟨_, r1.1, r1.2.2.2.1, ?_⟩
      rw [r1.2.2.2.2.2.2.1]
      refine c_take hG1 i1.1 hb hL h8 (fun z => absurd z ck) (fun _ => ipos rfl (c_refuse (k := 1) hG1 i1 (by decide) (fun m2 o2 i2 => ?_)))
      have o : offM (fun c j => (c = 0 ∧ j = 1) ∨ c = 2) M m2 := offM_tr (offM_mono o1 (fun c j q => Or.inl q)) (offM_mono o2 (fun c j q => Or.inr q))
      exact ⟨rfl, offA_of o (fun c j q => by unfold cl; omega), CC_io hc (offA_M o) (fun c j q => by unfold k1; omega) i2⟩
    · obtain ⟨d1, d2, d3', d4, d5⟩ := id hmm
      have p1 : offM (fun c j => c = 164 ∧ j = 1) m (mm_uI m 164 1 0) := offM_uI ⟨rfl, rfl⟩
      have j1 : mIO (lenA a.1 0) (mm_uI m 164 1 0) := mIO_len d1
      refine m_see (M := mm_uI m 164 1 0) (f := a.1.1) hGm (mU_off d2.2.1 p1 (fun c j q => by omega)) vu.2.1 d1.2.1 rfl hGm j1.1 hb hL (fun z => absurd z ck) (fun _ => ?_)
      obtain ⟨o2, i2⟩ := m_refused j1 (k := 1) (by decide)
      have o : offM (fun c j => (c = 164 ∧ j = 1) ∨ c = 166) m (mm_uI (mm_uI m 164 1 0) 166 1 ((mm_uI m 164 1 0).1 166 1 + 1)) := offM_tr (offM_mono p1 (fun c j q => Or.inl q)) (offM_mono o2 (fun c j q => Or.inr q))
      exact ⟨rfl, offA_of o (fun c j q => by unfold ml; omega), MM_io hmm (offA_M o) (fun c j q => by unfold k2; omega) i2⟩
