/-! ===== rest: the reference ===== -/
def wLh (c j : Nat) : Prop := wTk c j ∨ c = 211 ∨ (c = 164 ∧ j = 59)
theorem m_laysHunger {d n : Nat} {u : Nat} {a : dA} {M : mm_M} {K : mm_M → Prop} (hG : mm_G M.2.2) (hmm : MM a M) (hv : VV u a) (hn : n ≤ 100) (hsum : a.2.2.1.1.1.toInt + n ≤ 999) (hK : ∀ m, mm_G m.2.2 → offA ml M m → MM a m → (∀ s h, s < 2 ^ a.2.1.2.1.2.1 → h < a.2.1.2.1.2.1 → m.1 211 (7 * s + h) = hunA a.2.1.2.1 a.2.2.1.1 n s h) → K m) : mm_CV mX12_laysHunger (d + 13) [.ref 164, .int (nI n)] M K := by
  have vu := hv.2.1.1
  have vn := hv.2.2.1.1.1
  have hd := hv.2.2.1.1.2.1
  have hu7 := vu.2.1
  have h2l : 2 ^ a.2.1.2.1.2.1 ≤ 128 := (Nat.pow_le_pow_right (by decide) hu7 : 2 ^ a.2.1.2.1.2.1 ≤ 2 ^ 7)
  obtain ⟨d1, d2, d3, d4, d5⟩ := id hmm
  refine rX12_laysHunger hG (m_putsAside hG (fun m1 o1 h57 hA => ?_))
  have o1' : offM wLh M m1 := offM_mono o1 (fun c j q => by unfold wPa at q; unfold wLh wTk; omega)
  have st : ∀ m, offM wLh M m → mm_G m.2.2 ∧ mU a.2.1.2.1 m := fun m o => ⟨by rw [o.2.2]; exact hG, mU_off d2.2.1 o (fun c j q => by unfold wLh wTk wE wA at q; omega)⟩
  have outer : ∀ (k s : Nat) (m : mm_M), s + k = 2 ^ a.2.1.2.1.2.1 → offM wLh M m → m.1 164 57 = 1 → (∀ j, j < 43 → m.1 199 j = M.1 199 j) → asd (M.1 199) m → mK a.2.2.1.2.1 m → (∀ x h, x < s → h < a.2.1.2.1.2.1 → m.1 211 (7 * x + h) = hunA a.2.1.2.1 a.2.2.1.1 n x h) → jX12_laysHunger_6 (d + 12) (nI n) m K (nI n) (nI s) := by
    intro k
    induction k with
    | zero =>
      intro s m hs o g57 h199 A L hx
      obtain ⟨w1, w2⟩ := st m o
      refine lX12_laysHunger_6 w1 (m_houseMany w1 ?_)
      rw [w2.2.1, sh21 _ (by omega)]
      refine ipos (nI_le (by omega) (by omega)) (m_takesBack w1 A (fun m5 o5 h5 q57 q59 => ?_))
      have oo : offM (fun c j => wLh c j ∨ wTb c j) M m5 := offM_tr (offM_mono o (fun c j q => Or.inl q)) (offM_mono o5 (fun c j q => Or.inr q))
      refine hK m5 (by rw [oo.2.2]; exact hG) (offA_of oo (fun c j q => by unfold wLh wTk wE wA wTb at q; unfold ml; omega)) (MM_back hmm oo (fun c j q z => by unfold wLh wTk wE wA wTb at q; unfold k2 k4 k8 at z; omega) h5 (mK_off L o5 (fun c j q => by unfold wTb at q; omega)) q57 q59) (fun x h x1 x2 => ?_)
      rw [o5.1 _ _ (by unfold wTb; omega)]
      exact hx x h (by omega) x2
    | succ k ih =>
      intro s m hs o g57 h199 A L hx
      obtain ⟨w1, w2⟩ := st m o
      refine lX12_laysHunger_6 w1 (m_houseMany w1 ?_)
      rw [w2.2.1, sh21 _ (by omega)]
      refine ineg (nI_ge (by omega) (by omega)) ?_
      have o2 : offM (fun c j => c = 164 ∧ j = 59) m (mm_uI m 164 59 (nI s)) := offM_uI ⟨rfl, rfl⟩
      have g59 : (mm_uI m 164 59 (nI s)).1 164 59 = nI s := uI_at _ _ _ _
      generalize mm_uI m 164 59 (nI s) = m2 at o2 g59 ⊢
      have ho2 : offM wLh M m2 := offM_tr o (offM_mono o2 (fun c j q => Or.inr (Or.inr q)))
      obtain ⟨x1, x2⟩ := st m2 ho2
      obtain ⟨c0, h58⟩ := nI_surj (m2.1 164 58)
      refine m_daysGo (rest := s) (th := true) (L := a.2.2.1.2.1) (c0 := c0) (N := a.2.2.1.1) x1 x2 (mN_off (mN_eq d3.1 h199) o2 (fun c j q => by omega)) vu vn hd hn (by omega) g59 (by rw [o2.1 _ _ (by omega), g57]; rfl) (mK_off L o2 (fun c j q => by omega)) h58 (fun m3 o3 n3 k3 _ => ?_)
      rw [show (!true) = false from rfl, runM_th] at k3
      rw [days_eq hv hsum] at n3
      have ho3 : offM wLh M m3 := offM_tr ho2 (offM_mono o3 (fun c j q => Or.inl (Or.inl q)))
      have A3 : asd (M.1 199) m3 := asd_off (asd_off A o2 (fun c j q => by omega)) o3 (fun c j q => by unfold wE wA at q; omega)
      have p57 : m3.1 164 57 = 1 := by rw [o3.1 _ _ (by unfold wE wA; omega), o2.1 _ _ (by omega)]; exact g57
      have hx3 : ∀ x h, x < s → h < a.2.1.2.1.2.1 → m3.1 211 (7 * x + h) = hunA a.2.1.2.1 a.2.2.1.1 n x h := fun x h q1 q2 => by rw [o3.1 _ _ (by unfold wE wA; omega), o2.1 _ _ (by omega)]; exact hx x h q1 q2
      have e7 : 7 * nI s = nI (7 * s) := pk_mul 7 s
      have inner : ∀ (q h : Nat) (m : mm_M), h + q = a.2.1.2.1.2.1 → offM wLh M m → m.1 164 57 = 1 → mN (daysC a.2.1.2.1 s n a.2.2.1.1) m → asd (M.1 199) m → mK a.2.2.1.2.1 m → (∀ x y, y < a.2.1.2.1.2.1 → (x < s ∨ (x = s ∧ y < h)) → m.1 211 (7 * x + y) = hunA a.2.1.2.1 a.2.2.1.1 n x y) → jX12_laysHunger_28 (d + 12) (nI n) m K (nI n) (nI s) (nI h) := by
        intro q
        induction q with
        | zero =>
          intro h m hh o g57 n1 A L hx
          obtain ⟨w1, w2⟩ := st m o
          refine lX12_laysHunger_28 w1 (m_houseMany w1 ?_)
          rw [w2.2.1, nI_1]
          refine ipos (nI_le (by omega) (by omega)) (m_triesAnew w1 A (fun m4 o4 h4 => ?_))
          refine ih (s + 1) m4 (by omega) (offM_tr o (offM_mono o4 (fun c j q => by unfold wN at q; unfold wLh wTk wE; omega))) (by rw [o4.1 _ _ (by unfold wN; omega)]; exact g57) h4 (asd_off A o4 (fun c j q => by unfold wN at q; omega)) (mK_off L o4 (fun c j q => by unfold wN at q; omega)) (fun x y x1 x2 => ?_)
          rw [o4.1 _ _ (by unfold wN; omega)]
          exact hx x y x2 (by omega)
        | succ q ihq =>
          intro h m hh o g57 n1 A L hx
          obtain ⟨w1, w2⟩ := st m o
          refine lX12_laysHunger_28 w1 (m_houseMany w1 ?_)
          rw [w2.2.1, e7, nI_add, nI_clamp (n := 7 * s + h) (by omega), nI_1 s, nI_1 h]
          refine ineg (nI_ge (by omega) (by omega)) (m_isThere w1 n1 (by omega) ?_)
          have put : ∀ z : Int32, z = hunA a.2.1.2.1 a.2.2.1.1 n s h → jX12_laysHunger_28 (d + 12) (nI n) (mm_uI m 211 (7 * s + h) z) K (nI n) (nI s) (nI (h + 1)) := fun z hz => by
            have o4 : offM (fun c _ => c = 211) m (mm_uI m 211 (7 * s + h) z) := offM_uI rfl
            refine ihq (h + 1) _ (by omega) (offM_tr o (offM_mono o4 (fun c j q => Or.inr (Or.inl q)))) (by rw [uI_c (by decide)]; exact g57) (mN_off n1 o4 (fun c j q => by omega)) (asd_off A o4 (fun c j q => by omega)) (mK_off L o4 (fun c j q => by omega)) (fun x y y1 x1 => ?_)
            by_cases e : 7 * x + y = 7 * s + h
            · obtain ⟨rfl, rfl⟩ : x = s ∧ y = h := by omega
              rw [uI_at, hz]
            · rw [uI_j e]; exact hx x y y1 (by omega)
          by_cases c : (daysC a.2.1.2.1 s n a.2.2.1.1).2.1.testBit h = true
          · rw [if_pos c]
            exact ineg (by decide) (m_hungerOf w1 n1 (by omega) ⟨vp_in_nI (by omega) (by decide), put _ (by unfold hunA; rw [if_pos c])⟩)
          · rw [if_neg c]
            exact ipos rfl ⟨vp_in_nI (by omega) (by decide), put _ (by unfold hunA; rw [if_neg c])⟩
      exact inner a.2.1.2.1.2.1 0 m3 (by omega) ho3 p57 n3 A3 k3 (fun x y y1 x1 => hx3 x y (by omega) y1)
  exact outer (2 ^ a.2.1.2.1.2.1) 0 m1 (by omega) o1' h57 (fun j _ => o1.1 _ _ (by unfold wPa; omega)) hA (mK_off d3.2.1 o1 (fun c j q => by unfold wPa at q; omega)) (fun x h x1 => by omega)
theorem hun_gone {U : dU} {N : dN} (vu : vU U) (vn : vN U N) {n s h : Nat} (h7 : h < 7) (hb : ¬ N.2.1.testBit h = true) : hunA U N n s h = 10 := by
  unfold hunA
  rw [if_neg]
  intro q
  refine hb (daysC_sub (rest := s) vu vn (i := 0) h7 n ?_)
  rw [Nat.zero_add]; exact q
theorem m_isRest {d s n : Nat} {U : dU} {N : dN} {M : mm_M} {K : Int32 → mm_M → Prop} (hG : mm_G M.2.2) (hU : mU U M) (vu : vU U) (vn : vN U N) (hs : s < 2 ^ U.2.1) (hx : ∀ s h, s < 2 ^ U.2.1 → h < U.2.1 → M.1 211 (7 * s + h) = hunA U N n s h) (h1 : restS U N n s → K 1 M) (h0 : ¬ restS U N n s → K 0 M) : mm_CI mX12_isRest (d + 1) [.ref 164, .int (nI s)] M K := by
  have hu7 := vu.2.1
  have h2l : 2 ^ U.2.1 ≤ 128 := (Nat.pow_le_pow_right (by decide) hu7 : 2 ^ U.2.1 ≤ 2 ^ 7)
  refine rX12_isRest hG ?_
  have loop : ∀ (k h : Nat), h + k = U.2.1 → (∀ j, j < h → hunA U N n s j ≤ hunA U N n (s ^^^ 2 ^ j) j) → jX12_isRest_2 d (nI s) M K (nI s) (nI h) := by
    intro k
    induction k with
    | zero =>
      intro h hh hj
      refine lX12_isRest_2 hG (m_houseMany hG ?_)
      rw [hU.2.1]
      exact ipos (nI_le (by omega) (by omega)) (h1 (fun j hb => hj j (by have := bit_lt vn hb; omega)))
    | succ k ih =>
      intro h hh hj
      have hxr : s ^^^ 2 ^ h < 2 ^ U.2.1 := Nat.xor_lt_two_pow hs (Nat.pow_lt_pow_right (by decide) (by omega))
      have e7 : ∀ x, 7 * nI x = nI (7 * x) := fun x => pk_mul 7 x
      refine lX12_isRest_2 hG (m_houseMany hG ?_)
      rw [hU.2.1, nI_1, (bit_xor s (by omega) h (by omega)).1, e7, e7, nI_add, nI_add, nI_clamp (n := 7 * s + h) (by omega), nI_clamp (n := 7 * (s ^^^ 2 ^ h) + h) (by omega), hx s h hs (by omega), hx _ h hxr (by omega)]
      refine ineg (nI_ge (by omega) (by omega)) ⟨vp_in_nI (by omega) (by decide), vp_in_nI (by omega) (by decide), ite_go (fun c => ih (h + 1) (by omega) (fun j hj2 => ?_)) (fun c => h0 (fun z => c ?_))⟩
      · by_cases e : j = h
        · subst e; exact c
        · exact hj j (by omega)
      · by_cases hb : N.2.1.testBit h = true
        · exact z h hb
        · rw [hun_gone vu vn (by omega) hb, hun_gone vu vn (by omega) hb]; exact Int32.le_refl _
  exact loop U.2.1 0 (by omega) (fun j hj => by omega)
def mrP (U : dU) (N : dN) (n t : Nat) (o : Option Nat) : Prop := match o with
  | some b => b < t ∧ restS U N n b ∧ ∀ s, s < t → restS U N n s → pop b < pop s ∨ (pop b = pop s ∧ b ≤ s)
  | none => ∀ s, s < t → ¬ restS U N n s
theorem rest_and {U : dU} {N : dN} (vu : vU U) (vn : vN U N) {n s : Nat} (h : restS U N n s) : restS U N n (s &&& N.2.1) := by
  intro x hx
  have e1 : daysC U (s &&& N.2.1) n N = daysC U s n N := days_agree vu vn (fun b hb => by rw [Nat.testBit_and, hb]; simp) n
  have e2 : daysC U ((s &&& N.2.1) ^^^ 2 ^ x) n N = daysC U (s ^^^ 2 ^ x) n N := days_agree vu vn (fun b hb => by rw [Nat.testBit_xor, Nat.testBit_xor, Nat.testBit_and, hb]; simp) n
  have := h x hx
  unfold hunA at this ⊢
  rw [e1, e2]
  exact this
theorem mrP_rest {U : dU} {N : dN} (vu : vU U) (vn : vN U N) {n : Nat} {o : Option Nat} (h : mrP U N n (2 ^ U.2.1) o) : restP U N n o := by
  have hu7 := vu.2.1
  have hth := vN_lt vu vn
  have h2l : 2 ^ U.2.1 ≤ 128 := (Nat.pow_le_pow_right (by decide) hu7 : 2 ^ U.2.1 ≤ 2 ^ 7)
  have sub : ∀ s, s &&& N.2.1 = s → s < 2 ^ U.2.1 := fun s hs => by rw [← hs]; exact Nat.lt_of_le_of_lt Nat.and_le_right vn.2.1
  match o, h with
  | none, h => exact fun s hs => h s (sub s hs)
  | some b, ⟨b1, b2, b3⟩ =>
    obtain ⟨p1, p2, p3⟩ := pop_and b (by omega) N.2.1 hth
    have := b3 (b &&& N.2.1) (Nat.lt_of_le_of_lt Nat.and_le_left b1) (rest_and vu vn b2)
    exact ⟨p2 (by omega), b2, fun s hs hr => b3 s (sub s hs) hr⟩
theorem s17 : lw_S17 Inv := by
  intro u M x1 hu hG hI
  refine stepI hI (fun a hv hc hm => ?_)
  have vu := hv.2.1.1
  have vn := hv.2.2.1.1.1
  have hd := hv.2.2.1.1.2.1
  have hu7 := vu.2.1
  have h2l : 2 ^ a.2.1.2.1.2.1 ≤ 128 := (Nat.pow_le_pow_right (by decide) hu7 : 2 ^ a.2.1.2.1.2.1 ≤ 2 ^ 7)
  by_cases cn : a.2.1.1 = true ∧ 1 ≤ x1.toInt ∧ x1.toInt ≤ 20 ∧ a.2.2.1.1.1.toInt + x1.toInt ≤ 999
  · obtain ⟨hdu, n1, n2, n3⟩ := cn
    have hU := hc.2.1.2.2.2.2.2.2.2.2.2.2 hdu
    obtain ⟨n, hn1, hn, rfl⟩ : ∃ n, 1 ≤ n ∧ n ≤ 20 ∧ x1 = nI n := ⟨x1.toInt.toNat, by omega, by omega, i32_nI (by omega)⟩
    have hsum : a.2.2.1.1.1.toInt + n ≤ 999 := by rw [nI_toInt (by omega)] at n3; exact n3
    have cn' : a.2.1.1 = true ∧ 1 ≤ (nI n).toInt ∧ (nI n).toInt ≤ 20 ∧ a.2.2.1.1.1.toInt + (nI n).toInt ≤ 999 := ⟨hdu, n1, n2, n3⟩
    have ex : ∀ t, t ≤ 2 ^ a.2.1.2.1.2.1 → ∃ o, mrP a.2.1.2.1 a.2.2.1.1 n t o := by
      intro t
      induction t with
      | zero => intro _; exact ⟨none, fun s hs => by omega⟩
      | succ t ih =>
        intro ht
        obtain ⟨o, ho⟩ := ih (by omega)
        by_cases cr : restS a.2.1.2.1 a.2.2.1.1 n t
        · match o, ho with
          | none, ho => exact ⟨some t, by omega, cr, fun s hs hr => by
              by_cases e : s = t
              · subst e; exact Or.inr ⟨rfl, Nat.le_refl _⟩
              · exact absurd hr (ho s (by omega))⟩
          | some b, ⟨b1, b2, b3⟩ =>
            by_cases cp : pop t < pop b
            · exact ⟨some t, by omega, cr, fun s hs hr => by
                by_cases e : s = t
                · subst e; exact Or.inr ⟨rfl, Nat.le_refl _⟩
                · have := b3 s (by omega) hr; exact Or.inl (by omega)⟩
            · exact ⟨some b, by omega, b2, fun s hs hr => by
                by_cases e : s = t
                · subst e; omega
                · exact b3 s (by omega) hr⟩
        · match o, ho with
          | none, ho => exact ⟨none, fun s hs => by
              by_cases e : s = t
              · subst e; exact cr
              · exact ho s (by omega)⟩
          | some b, ⟨b1, b2, b3⟩ => exact ⟨some b, by omega, b2, fun s hs hr => by
              by_cases e : s = t
              · subst e; exact absurd hr cr
              · exact b3 s (by omega) hr⟩
    obtain ⟨o, ho⟩ := ex (2 ^ a.2.1.2.1.2.1) (Nat.le_refl _)
    have hoR := mrP_rest vu vn ho
    refine ⟨pickR o, a, VV_up hv, ?_, fun m hGm hmm => ?_⟩
    · refine rX11_rest hG (c_hasDuchy hG hc.2.1 (fun _ => ineg (by decide) (c_canLook hG hc.2.2.1.1 hd (fun n' en' _ _ _ => ineg (by decide) ?_) (fun z => absurd cn'.2 z))) (fun q => absurd hdu q))
      refine c_restingSet hG hU hc.2.2.1.1 vu vn (by omega) (fun m1 o' o1 hR => ?_)
      rw [restP_uniq hR hoR]
      exact ⟨rfl, offA_of o1 (fun c j q => by unfold wHu wS at q; unfold cl; omega), CC_cc hc o1 (fun c j q => by unfold wHu wS at q; omega) (cC_off hc.2.2.2.2.2 (offA_M o1) (fun c j q => by unfold wHu wS at q; omega))⟩
    · obtain ⟨d1, d2, d3, d4, d5⟩ := id hmm
      refine rX12_rest hGm (m_isAhead (lo := 1) (hi := 20) hGm d2 d3.1 hd (by decide) (by decide) (fun n' _ en' _ hn' _ => ineg (by decide) ?_) (fun z => absurd cn' z))
      refine m_laysHunger hGm hmm hv (by omega) hsum (fun m1 hG1 o1 hM1 hx1 => ?_)
      have hU1 := hM1.2.1.2.1
      have fin : ∀ (k t : Nat) (o1' : Option Nat), t + k = 2 ^ a.2.1.2.1.2.1 → mrP a.2.1.2.1 a.2.2.1.1 n t o1' → jX12_rest_22 899 (nI n) m1 (mQ a (pickR o) m) (pickR o1') (nI t) := by
        intro k
        induction k with
        | zero =>
          intro t o1' ht hP
          obtain rfl : t = 2 ^ a.2.1.2.1.2.1 := by omega
          refine lX12_rest_22 hG1 (m_houseMany hG1 ?_)
          rw [hU1.2.1, sh21 _ (by omega)]
          refine ipos (nI_le (Nat.le_refl _) (by omega)) ?_
          rw [restP_uniq (mrP_rest vu vn hP) hoR]
          exact ⟨rfl, o1, hM1⟩
        | succ k ih =>
          intro t o1' ht hP
          refine lX12_rest_22 hG1 (m_houseMany hG1 ?_)
          rw [hU1.2.1, sh21 _ (by omega), nI_1]
          refine ineg (nI_ge (by omega) (by omega)) ?_
          match o1', hP with
          | none, hP =>
            refine ipos rfl (m_isRest hG1 hU1 vu vn (by omega) hx1 (fun hr => ineg (by decide) (ih (t + 1) (some t) (by omega) ⟨by omega, hr, fun s hs hr' => ?_⟩)) (fun hr => ipos rfl (ih (t + 1) none (by omega) (fun s hs => ?_))))
            · by_cases e : s = t
              · subst e; exact Or.inr ⟨rfl, Nat.le_refl _⟩
              · exact absurd hr' (hP s (by omega))
            · by_cases e : s = t
              · subst e; exact hr
              · exact hP s (by omega)
          | some b, ⟨b1, b2, b3⟩ =>
            have p1 := pop_7 t (by omega)
            have p2 := pop_7 b (by omega)
            have keep : (¬ restS a.2.1.2.1 a.2.2.1.1 n t ∨ pop b ≤ pop t) → mrP a.2.1.2.1 a.2.2.1.1 n (t + 1) (some b) := fun hor => ⟨by omega, b2, fun s hs hr' => by
              by_cases e : s = t
              · subst e
                rcases hor with hor | hor
                · exact absurd hr' hor
                · omega
              · exact b3 s (by omega) hr'⟩
            refine ineg (nI_nm1 (b := b) (by omega)) (m_bits hG1 (by omega) (m_bits (n := b) hG1 (by omega) ?_))
            by_cases cp : pop t < pop b
            · refine ipos (nI_lt cp (by omega)) (m_isRest hG1 hU1 vu vn (by omega) hx1 (fun hr => ineg (by decide) (ih (t + 1) (some t) (by omega) ⟨by omega, hr, fun s hs hr' => ?_⟩)) (fun hr => ipos rfl (ih (t + 1) (some b) (by omega) (keep (Or.inl hr)))))
              by_cases e : s = t
              · subst e; exact Or.inr ⟨rfl, Nat.le_refl _⟩
              · have := b3 s (by omega) hr'; exact Or.inl (by omega)
            · exact ineg (nI_nlt (by omega) (by omega)) (ih (t + 1) (some b) (by omega) (keep (Or.inr (by omega))))
      exact fin (2 ^ a.2.1.2.1.2.1) 0 none (by omega) (fun s hs => by omega)
  · refine ⟨-1, a, VV_up hv, ?_, fun m hGm hmm => ?_⟩
    · exact rX11_rest hG (c_hasDuchy hG hc.2.1 (fun hdu => ineg (by decide) (c_canLook hG hc.2.2.1.1 hd (fun n' en' h2 h3 h4 => absurd ⟨hdu, by rw [en', nI_toInt (by omega)]; omega, by rw [en', nI_toInt (by omega)]; omega, by rw [en', nI_toInt (by omega)]; exact h4⟩ cn) (fun _ => ipos rfl (cQ_same hc)))) (fun _ => ipos rfl (cQ_same hc)))
    · exact rX12_rest hGm (m_isAhead (lo := 1) (hi := 20) hGm hmm.2.1 hmm.2.2.1.1 hd (by decide) (by decide) (fun n' h1 en' h2 h3 h4 => absurd ⟨h1, by rw [en', nI_toInt (by omega)]; omega, by rw [en', nI_toInt (by omega)]; omega, by rw [en', nI_toInt (by omega)]; exact h4⟩ cn) (fun _ => ipos rfl (mQ_same hmm)))
