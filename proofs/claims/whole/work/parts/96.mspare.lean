/-! ===== spared: the reference ===== -/
theorem m_feuds_in {d a : Nat} {U : dU} {N : dN} {M : mm_M} {K : Int32 → mm_M → Prop} (hG : mm_G M.2.2) (hU : mU U M) (hN : mN N M) (vu : vU U) (vn : vN U N) (ha : a < U.2.1) : ∀ (k b : Nat) (m : mm_M), b + k = U.2.1 → a < b → offM wF M m → mFr (feudTo N (8 * a + b)) m → (∀ m', offM wF M m' → mFr (feudTo N (8 * a + 8)) m' → jX12_laysFeuds_4 (d + 2) m' K (nI (feudTo N (8 * a + 8)).length) (nI (a + 1))) → jX12_laysFeuds_16 (d + 2) m K (nI (feudTo N (8 * a + b)).length) (nI a) (nI b) := by
  have hu7 := vu.2.1
  have hno : ∀ p, U.2.1 ≤ p % 8 ∨ p % 8 ≤ p / 8 → feudB N p = false := fun p hp => by
    apply Bool.eq_false_iff.mpr
    intro z
    have h := feudB_v z
    have := bit_lt vn (vn.2.2.2.2.2.2.2 _ _ h.2.2).2
    omega
  intro k
  induction k with
  | zero =>
    intro b m hb hab ho h hK
    have hGm : mm_G m.2.2 := by rw [ho.2.2]; exact hG
    have hUm : mU U m := mU_off hU ho (fun c j q => by unfold wF at q; omega)
    refine lX12_laysFeuds_16 hGm (m_houseMany hGm ?_)
    rw [hUm.2.1, nI_1]
    have e : feudTo N (8 * a + 8) = feudTo N (8 * a + b) := by
      rw [show 8 * a + 8 = (8 * a + b) + (8 - b) by omega]
      exact feudTo_skip _ (fun p p1 p2 => hno p (by omega))
    rw [e] at hK
    exact ipos (nI_le (by omega) (by omega)) (hK m ho h)
  | succ k ih =>
    intro b m hb hab ho h hK
    have hGm : mm_G m.2.2 := by rw [ho.2.2]; exact hG
    have hUm : mU U m := mU_off hU ho (fun c j q => by unfold wF at q; omega)
    have hNm : mN N m := mN_off hN ho (fun c j q => by unfold wF at q; omega)
    have hd : (8 * a + b) / 8 = a := by omega
    have hr : (8 * a + b) % 8 = b := by omega
    have f1 := feudTo_1 (N := N) (n := 8 * a + b)
    refine lX12_laysFeuds_16 hGm (m_houseMany hGm ?_)
    rw [hUm.2.1, nI_1 a, nI_1 b]
    refine ineg (nI_ge (by omega) (by omega)) (m_areEnemies (U := U) hGm hNm vn (by omega) (by omega) ?_)
    by_cases c3 : 0 < N.2.2.2.2 a b
    · rw [if_pos c3]
      have hf : feudB N (8 * a + b) = true := by
        unfold feudB
        rw [hd, hr]
        have h7 : b < 7 := by omega
        simp [c3, hab, h7]
      rw [if_pos hf] at f1
      have f1 : feudTo N (8 * a + (b + 1)) = feudTo N (8 * a + b) ++ [8 * a + b] := f1
      have hle := feudTo_le (N := N) (n := 8 * a + (b + 1)) (56 - (8 * a + (b + 1)))
      rw [show 8 * a + (b + 1) + (56 - (8 * a + (b + 1))) = 56 by omega, f1, List.length_append] at hle
      have hle : (feudTo N (8 * a + b)).length + 1 ≤ (feudP N).length := hle
      have h21 : (feudP N).length ≤ 21 := by
        rw [feudP_len]
        have e1 : ∀ p q, en N p q ≤ 1 := fun p q => by unfold en; split <;> omega
        unfold sum21
        have := e1 0 1; have := e1 0 2; have := e1 0 3; have := e1 0 4; have := e1 0 5; have := e1 0 6
        have := e1 1 2; have := e1 1 3; have := e1 1 4; have := e1 1 5; have := e1 1 6
        have := e1 2 3; have := e1 2 4; have := e1 2 5; have := e1 2 6
        have := e1 3 4; have := e1 3 5; have := e1 3 6; have := e1 4 5; have := e1 4 6; have := e1 5 6
        omega
      refine ineg (by decide) ⟨vp_in_nI (by omega) (by decide), vp_in_nI (by omega) (by decide), ?_⟩
      rw [nI_clamp (by omega), nI_1]
      have := ih (b + 1) (mm_uI (mm_uI m 208 (feudTo N (8 * a + b)).length (nI a)) 209 (feudTo N (8 * a + b)).length (nI b)) (by omega) (by omega) (offM_tr ho (offM_tr (offM_uI (Or.inl rfl)) (offM_uI (Or.inr rfl)))) ?_ hK
      · rw [f1, List.length_append] at this
        exact this
      · rw [f1]
        intro k' p hp
        by_cases z : k' < (feudTo N (8 * a + b)).length
        · rw [List.getElem?_append_left z] at hp
          have z' : k' ≠ (feudTo N (8 * a + b)).length := by omega
          rw [uI_c (c := 208) (by decide), uI_j (a := 208) z', uI_j (a := 209) z', uI_c (c := 209) (by decide)]
          exact h k' p hp
        · have hk' : k' = (feudTo N (8 * a + b)).length := by
            have := (List.getElem?_eq_some_iff.mp hp).1
            rw [List.length_append] at this
            have : k' < (feudTo N (8 * a + b)).length + 1 := this
            omega
          subst hk'
          rw [List.getElem?_append_right (Nat.le_refl _), Nat.sub_self] at hp
          have : 8 * a + b = p := by simpa using hp
          subst this
          rw [uI_c (c := 208) (by decide), uI_at, uI_at, hd, hr]
          exact ⟨rfl, rfl⟩
    · rw [if_neg c3]
      have hf : feudB N (8 * a + b) = false := by
        unfold feudB
        rw [hd, hr]
        simp [c3]
      rw [hf] at f1
      have f1 : feudTo N (8 * a + (b + 1)) = feudTo N (8 * a + b) := f1
      have := ih (b + 1) m (by omega) (by omega) ho (by rw [f1]; exact h) hK
      rw [f1] at this
      exact ipos rfl this
theorem m_laysFeuds {d : Nat} {U : dU} {N : dN} {M : mm_M} {K : Int32 → mm_M → Prop} (hG : mm_G M.2.2) (hU : mU U M) (hN : mN N M) (vu : vU U) (vn : vN U N) (hK : ∀ m, offM wF M m → mFr (feudP N) m → K (nI (feudP N).length) m) : mm_CI mX12_laysFeuds (d + 3) [.ref 164] M K := by
  have hu7 := vu.2.1
  have hno : ∀ p, U.2.1 ≤ p % 8 ∨ p % 8 ≤ p / 8 → feudB N p = false := fun p hp => by
    apply Bool.eq_false_iff.mpr
    intro z
    have h := feudB_v z
    have := bit_lt vn (vn.2.2.2.2.2.2.2 _ _ h.2.2).2
    omega
  have loop : ∀ (k a : Nat) (m : mm_M), a + k = U.2.1 → offM wF M m → mFr (feudTo N (8 * a)) m → jX12_laysFeuds_4 (d + 2) m K (nI (feudTo N (8 * a)).length) (nI a) := by
    intro k
    induction k with
    | zero =>
      intro a m ha ho h
      have hGm : mm_G m.2.2 := by rw [ho.2.2]; exact hG
      have hUm : mU U m := mU_off hU ho (fun c j q => by unfold wF at q; omega)
      refine lX12_laysFeuds_4 hGm (m_houseMany hGm ?_)
      rw [hUm.2.1]
      have e : feudP N = feudTo N (8 * a) := by
        unfold feudP
        rw [show 56 = 8 * a + (56 - 8 * a) by omega]
        exact feudTo_skip _ (fun p p1 p2 => hno p (by omega))
      rw [e] at hK
      exact ipos (nI_le (by omega) (by omega)) (hK m ho h)
    | succ k ih =>
      intro a m ha ho h
      have hGm : mm_G m.2.2 := by rw [ho.2.2]; exact hG
      have hUm : mU U m := mU_off hU ho (fun c j q => by unfold wF at q; omega)
      refine lX12_laysFeuds_4 hGm (m_houseMany hGm ?_)
      rw [hUm.2.1, nI_1]
      refine ineg (nI_ge (by omega) (by omega)) ?_
      have e : feudTo N (8 * a + (a + 1)) = feudTo N (8 * a) := feudTo_skip _ (fun p p1 p2 => hno p (by omega))
      rw [← e]
      exact m_feuds_in hG hU hN vu vn (by omega) (U.2.1 - (a + 1)) (a + 1) m (by omega) (by omega) ho (by rw [e]; exact h) (fun m' o' h' => ih (a + 1) m' (by omega) o' h')
  exact rX12_laysFeuds hG (loop U.2.1 0 M (by omega) offM_rf (fun k p hp => by simp [feudTo] at hp))
/-- who is left, feuds of a set being ended; it is put back -/
theorem m_leftBy {d b n : Nat} {f : Nat → Int32} {L : List dQ} {U : dU} {N : dN} {M : mm_M} {K : Int32 → mm_M → Prop} (hG : mm_G M.2.2) (hU : mU U M) (hN : mN N M) (vu : vU U) (vn : vN U N) (hd : inI 0 999 N.1) (hF : mFr (feudP N) M) (h10 : (feudP N).length ≤ 10) (hb : b < 1024) (hn : N.1.toInt + n ≤ 999) (hn100 : n ≤ 100) (h57 : M.1 164 57 = 1) (h59 : M.1 164 59 = nI 0) (hA : asd f M) (hL : mK L M) (hK : ∀ m, offM wE M m → (∀ j, j < 43 → m.1 199 j = f j) → asd f m → mK L m → K (nI (leftA U N n b)) m) : mm_CI mX12_leftBy (d + 13) [.ref 164, .int (nI b), .int (nI (feudP N).length), .int (nI n)] M K := by
  refine rX12_leftBy hG ?_
  unfold leftA at hK
  have hv : ∀ p ∈ feudP N, p / 8 < p % 8 ∧ p % 8 < 7 := fun p hp => ⟨(feudP_v hp).1, (feudP_v hp).2.1⟩
  generalize feudP N = l at *
  have loop : ∀ (k i : Nat) (X : dN) (m : mm_M), i + k = l.length → offM wN M m → mN X m → (List.range' i k).foldl (endS l b) X = endA N l b → jX12_leftBy_3 (d + 12) (nI b) (nI l.length) (nI n) m K (nI b) (nI l.length) (nI n) (nI i) := by
    intro k
    induction k with
    | zero =>
      intro i X m hi ho hX hf
      have hf : X = endA N l b := hf
      subst hf
      obtain ⟨ve, de⟩ := endA_v (b := b) vn hv
      have hGm : mm_G m.2.2 := by rw [ho.2.2]; exact hG
      have hUm : mU U m := mU_off hU ho (fun c j q => by unfold wN at q; omega)
      obtain ⟨c0, h58⟩ := nI_surj (m.1 164 58)
      have hde : inI 0 999 (endA N l b).1 := by rw [de]; exact hd
      refine lX12_leftBy_3 hGm (ipos (nI_le (by omega) (by omega)) ?_)
      refine m_daysGo (rest := 0) (th := true) (L := L) (c0 := c0) hGm hUm hX vu ve hde hn100 (by decide) (by rw [ho.1 _ _ (by unfold wN; omega)]; exact h59) (by rw [ho.1 _ _ (by unfold wN; omega), h57]; rfl) (mK_off hL ho (fun c j q => by unfold wN at q; omega)) h58 (fun m1 o1 n1 k1 _ => ?_)
      rw [show (!true) = false from rfl, runM_th] at k1
      rw [← daysC_M hde n (by rw [de]; exact hn)] at n1
      have hG1 : mm_G m1.2.2 := by rw [o1.2.2]; exact hGm
      refine m_thereSet hG1 (mU_off hUm o1 (fun c j q => by unfold wE wA at q; omega)) n1 vu (daysC_v vu ve n) ?_
      have A1 : asd f m1 := asd_off (asd_off hA ho (fun c j q => by unfold wN at q; omega)) o1 (fun c j q => by unfold wE wA at q; omega)
      refine m_triesAnew hG1 A1 (fun m2 o2 h2 => hK m2 ?_ h2 (asd_off A1 o2 (fun c j q => by unfold wN at q; omega)) (mK_off k1 o2 (fun c j q => by unfold wN at q; omega)))
      exact offM_tr (offM_tr (offM_mono ho (fun c j q => by unfold wN at q; unfold wE; omega)) o1) (offM_mono o2 (fun c j q => by unfold wN at q; unfold wE; omega))
    | succ k ih =>
      intro i X m hi ho hX hf
      have hGm : mm_G m.2.2 := by rw [ho.2.2]; exact hG
      rw [List.range'_succ, List.foldl_cons] at hf
      refine lX12_leftBy_3 hGm (ineg (nI_ge (by omega) (by omega)) ?_)
      have hp := List.getElem?_eq_getElem (show i < l.length by omega)
      generalize l[i] = p at hp
      have hvp := hv p (List.mem_of_getElem? hp)
      obtain ⟨t1, t2⟩ := bit10 b hb i (by omega)
      unfold endS at hf
      rw [nI_1]
      by_cases cb : b.testBit i = true
      · rw [if_pos cb, getD_at hp] at hf
        obtain ⟨q1, q2⟩ := hF i p hp
        have hpl := pr_lt (p / 8) (by omega) (p % 8) hvp.2 (by omega)
        rw [nI_clamp (by omega), ho.1 208 i (by unfold wN; omega), ho.1 209 i (by unfold wN; omega), q1, q2]
        refine ipos (t2.mpr cb) ⟨vp_in_nI (by omega) (by decide), vp_in_nI (by omega) (by decide), m_pairOf hGm (by omega) hvp.2 (by omega) ?_⟩
        rw [n22, nI_clamp (by omega)]
        refine ⟨vp_in_nI (by omega) (by decide), ih (i + 1) _ _ (by omega) (offM_tr ho (offM_uI ⟨rfl, by omega⟩)) (mN_uP hX (by omega) hvp.2 (by omega)) hf⟩
      · rw [if_neg cb] at hf
        exact ineg (mt t2.mp cb) (ih (i + 1) X m (by omega) ho hX hf)
  exact loop l.length 0 N M (by omega) offM_rf hN rfl
theorem m_nth {d b y2 : Nat} {x1 x2 : Int32} {l : List Nat} {M : mm_M} {K : Int32 → mm_M → Prop} (hG : mm_G M.2.2) (hF : mFr l M) (h10 : l.length ≤ 10) (hv : ∀ p ∈ l, p / 8 < p % 8 ∧ p % 8 < 7) (hb : b < 1024) (hy : y2 < 2 ^ 31) (hK : K (nthB l b y2) M) : ∀ (q i c : Nat), i + q = l.length → c ≤ y2 → c ≤ i → (((List.range' 0 l.length).filter b.testBit)[y2]? = ((List.range' i q).filter b.testBit)[y2 - c]?) → jX12_spared_118 d x1 x2 M K (nI y2) (nI l.length) (nI b) (nI c) (nI i) := by
  intro q
  induction q with
  | zero =>
    intro i c hi hc hci he
    refine lX12_spared_118 hG (ipos (nI_le (by omega) (by omega)) ?_)
    unfold nthB at hK
    rw [he] at hK
    simpa using hK
  | succ q ih =>
    intro i c hi hc hci he
    obtain ⟨t1, t2⟩ := bit10 b hb i (by omega)
    refine lX12_spared_118 hG (ineg (nI_ge (by omega) (by omega)) ?_)
    rw [nI_1 i, nI_1 c]
    rw [List.range'_succ] at he
    by_cases cb : b.testBit i = true
    · refine ineg (fun z => by rw [t1.mp z] at cb; cases cb) ?_
      rw [List.filter_cons_of_pos cb] at he
      by_cases ck : c = y2
      · subst ck
        rw [Nat.sub_self] at he
        have hp := List.getElem?_eq_getElem (show i < l.length by omega)
        generalize l[i] = p at hp
        have hvp := hv p (List.mem_of_getElem? hp)
        obtain ⟨q1, q2⟩ := hF i p hp
        refine ipos rfl ⟨vp_in_nI (by omega) (by decide), vp_in_nI (by omega) (by decide), ?_⟩
        rw [nI_clamp (by omega), q1, q2, ix8 (p / 8) (by omega) (p % 8) (by omega), show 8 * (p / 8) + p % 8 = p by omega]
        unfold nthB at hK
        rw [he] at hK
        have hK : K (nI (l.getD i 0)) M := hK
        rw [getD_at hp] at hK
        exact hK
      · have e1 : y2 - c = (y2 - (c + 1)) + 1 := by omega
        rw [e1] at he
        exact ineg (fun z => ck ((nI_eq (by omega) hy).mp z)) (ih (i + 1) (c + 1) (by omega) (by omega) (by omega) he)
    · have cb' : b.testBit i = false := by simpa using cb
      rw [List.filter_cons_of_neg cb] at he
      exact ipos (t1.mpr cb') (ih (i + 1) c (by omega) hc (by omega) he)
theorem bestP_uniq {U : dU} {N : dN} {n b b' : Nat} (h10 : (feudP N).length ≤ 10) (h : bestP U N n b) (h' : bestP U N n b') : b = b' := by
  obtain ⟨a1, a2, a3⟩ := h
  obtain ⟨b1, b2, b3⟩ := h'
  have h2l : 2 ^ (feudP N).length ≤ 1024 := (Nat.pow_le_pow_right (by decide) h10 : 2 ^ (feudP N).length ≤ 2 ^ 10)
  have p1 := pop_lt2 (feudP N).length (by omega) b (by omega) a1
  have p2 := pop_lt2 (feudP N).length (by omega) b' (by omega) b1
  have z0 : pop 0 = 0 := by decide
  by_cases c1 : b = 0
  · by_cases c2 : b' = 0
    · omega
    · have := a3 b' (by omega) b1 (b2 c2)
      rw [c1, z0] at this
      have : b' = 0 := p2.2 (by omega)
      omega
  · by_cases c2 : b' = 0
    · have := b3 b (by omega) a1 (a2 c1)
      rw [c2, z0] at this
      have : b = 0 := p1.2 (by omega)
      omega
    · have h1 := a3 b' (by omega) b1 (b2 c2)
      have h2 := b3 b (by omega) a1 (a2 c1)
      omega
theorem bestP_ex {U : dU} {N : dN} {n : Nat} : ∀ t, t ≤ 2 ^ (feudP N).length → 1 ≤ t → ∃ b, b < t ∧ (b ≠ 0 → goodS U N n b) ∧ ∀ s, 1 ≤ s → s < t → goodS U N n s → pop s < pop b ∨ (pop s = pop b ∧ b ≤ s)
  | 0, _, h => by omega
  | 1, _, _ => ⟨0, by omega, fun q => absurd rfl q, fun s s1 s2 => by omega⟩
  | t + 2, ht, _ => by
    obtain ⟨b, b1, b2, b3⟩ := bestP_ex (U := U) (N := N) (n := n) (t + 1) (by omega) (by omega)
    by_cases c : pop b < pop (t + 1) ∧ goodS U N n (t + 1)
    · refine ⟨t + 1, by omega, fun _ => c.2, fun s s1 s2 s3 => ?_⟩
      by_cases e : s = t + 1
      · subst e; exact Or.inr ⟨rfl, Nat.le_refl _⟩
      · have := b3 s s1 (by omega) s3
        exact Or.inl (by omega)
    · refine ⟨b, by omega, b2, fun s s1 s2 s3 => ?_⟩
      by_cases e : s = t + 1
      · subst e
        have : ¬ pop b < pop (t + 1) := fun q => c ⟨q, s3⟩
        omega
      · exact b3 s s1 (by omega) s3
