/-! ===== the reference: numbers, codes, what waits ===== -/
theorem m_num {T : dT} {q d lo hi : Nat} {M : mm_M} {K : Int32 → mm_M → Prop} (hG : mm_G M.2.2) (h : mLx T q M) (hlo : lo ≤ 9999) (hhi : hi ≤ 9999) (h1 : nuX T q lo hi = none → ∀ m, offM wLx M m → mLx T (nxt T q) m → K (vlu T q) m) (h2 : ∀ k p, nuX T q lo hi = some (k, p) → ∀ z m, offM wLx M m → mXs k p m → K z m) : mm_CI mX12_number (d + 1) [.ref 164, .int (nI lo), .int (nI hi)] M K := by
  have hq := mLx_q h
  have hbad : M.1 164 5 = 0 := by obtain ⟨p, h⟩ := h; exact h.2.1
  refine rX12_number hG (ipos hbad (m_lookP hG h (fun m o hl => ?_)))
  obtain ⟨a1, a2, a3, a4, a5, a6, a7⟩ := id hl
  have hn := a1.2.1
  have o' : offM wLx M m := offM_mono o (fun c j y => by unfold wLx; omega)
  have hGm : mm_G m.2.2 := by rw [o.2.2]; exact hG
  have bad : tkk T q ≠ 2 → mm_CV mX12_fail d [.ref 164, .int 1, .int (m.1 164 2)] m (fun m36 => K 0 m36) := fun z => by
    rw [a5]
    exact m_failP (k := 1) (p := q) hGm a2 (by omega) (by omega) (fun m2 o2 x => h2 1 q (by unfold nuX; rw [if_neg z]) 0 m2 (offM_tr o' o2) x)
  by_cases hqn : q < T.2
  · rw [if_pos hqn]
    refine m_isDigit hGm (fun hd => ineg (by decide) (ite_go (fun cg => bad (fun z => ?_)) (fun cg => ?_))) (fun hd => ipos rfl (bad (fun z => ?_)))
    · have hg := (mLk_en hl).mp cg
      unfold tkk at z
      rw [if_neg (by omega), if_pos hg] at z
      exact absurd z (by decide)
    · have hg : glu T q = false := by
        cases hh : glu T q with
        | false => rfl
        | true => exact absurd ((mLk_en hl).mpr hh) cg
      have htk : tkk T q = 2 := by
        unfold tkk
        rw [if_neg (by omega), if_neg (by rw [hg]; decide)]
        exact knd_2.mpr hd
      have hten : ten T q = rn T isDg q := by unfold ten; rw [htk]; rfl
      obtain ⟨r1, r2, r3, r4⟩ := rn_p (T := T) (P := isDg) hq
      have hnu : nuX T q lo hi = if ten T q - q ≤ 4 then (if lo ≤ (vlu T q).toInt.toNat ∧ (vlu T q).toInt.toNat ≤ hi then none else some (2, q)) else some (1, q + 4) := by unfold nuX; rw [if_pos htk]
      have hv := vlu_b hq
      -- the number's end
      have fin : ∀ (i : Nat) (m2 : mm_M), q + i = rn T isDg q → i ≤ 4 → offM (fun c j => c = 164 ∧ j = 2) m m2 → m2.1 164 2 = nI (q + i) → jX12_number_129 d (nI lo) (nI hi) m2 K (nI lo) (nI hi) (nI q) (vlF T q i) := fun i m2 hi hi4 o2 g2 => by
        have ev : vlF T q i = vlu T q := by unfold vlu; rw [← hi, show min 4 (q + i - q) = i by omega]
        rw [ev]
        rw [hten, ← hi, if_pos (by omega)] at hnu
        have o3 : offM (fun c j => c = 164 ∧ (j = 2 ∨ j = 4 ∨ j = 10)) m (mm_uI (mm_uI m2 164 4 (m2.1 164 2)) 164 10 (nI q)) := offM_tr (offM_tr (offM_mono o2 (fun c j y => by omega)) (offM_uI (by omega))) (offM_uI (by omega))
        have o3' : offM wLx M (mm_uI (mm_uI m2 164 4 (m2.1 164 2)) 164 10 (nI q)) := offM_tr o' (offM_mono o3 (fun c j y => by unfold wLx; omega))
        have hl3 : mLp T (q + i) (nxt T q) (mm_uI (mm_uI m2 164 4 (m2.1 164 2)) 164 10 (nI q)) := mLp_on hl (by omega) (Or.inr htk) o3 (by rw [uI_j (by decide), uI_j (by decide)]; exact g2) (by rw [uI_j (by decide), uI_at]; exact g2)
        have g10 : (mm_uI (mm_uI m2 164 4 (m2.1 164 2)) 164 10 (nI q)).1 164 10 = nI q := uI_at _ _ _ _
        have hG3 : mm_G (mm_uI (mm_uI m2 164 4 (m2.1 164 2)) 164 10 (nI q)).2.2 := by rw [o3'.2.2]; exact hG
        refine lX12_number_129 (by rw [o2.2.2]; exact hGm) ?_
        generalize mm_uI (mm_uI m2 164 4 (m2.1 164 2)) 164 10 (nI q) = m3 at o3 o3' hl3 g10 hG3 ⊢
        refine m_isIn hG3 (fun z => ineg (by decide) (h1 ?_ m3 o3' ⟨_, hl3⟩)) (fun z => ipos rfl ?_)
        · rw [i64_of, i64_of, i64_of, nI_toInt (by omega), nI_toInt (by omega)] at z
          rw [hnu, if_pos (by omega)]
        · rw [i64_of, i64_of, i64_of, nI_toInt (by omega), nI_toInt (by omega)] at z
          rw [g10]
          exact m_failP (k := 2) (p := q) hG3 hl3.2.1 (by omega) (by omega) (fun m4 o4 x => h2 2 q (by rw [hnu, if_neg (by omega)]) _ m4 (offM_tr o3' o4) x)
      have loop : ∀ (f i : Nat) (m2 : mm_M), i + f = 5 → i ≤ 4 → q + i ≤ T.2 → rn T isDg (q + i) = rn T isDg q → offM (fun c j => c = 164 ∧ j = 2) m m2 → m2.1 164 2 = nI (q + i) → jX12_number_49 d (nI lo) (nI hi) m2 K (nI lo) (nI hi) (nI q) (vlF T q i) := by
        intro f
        induction f with
        | zero =>
          intro i m2 hi hi4 hle hr o2 g2
          omega
        | succ f ih =>
          intro i m2 hi hi4 hle hr o2 g2
          have hG2 : mm_G m2.2.2 := by rw [o2.2.2]; exact hGm
          have hT2 := mTx_off a1 o2 (fun c j z => by omega)
          refine lX12_number_49 hG2 ?_
          rw [hT2.1, g2, nI_clamp (by omega)]
          by_cases ce : T.2 ≤ q + i
          · rw [rn_end ce] at hr
            exact ipos (nI_le ce (by omega)) (fin i m2 hr (by omega) o2 g2)
          · rw [rn_lt (by omega)] at hr
            rw [hT2.2.2 _ (by omega)]
            refine ineg (nI_ge (by omega) (by omega)) ⟨vp_in_nI (by omega) (by decide), m_isDigit hG2 (fun hdi => ineg (by decide) ?_) (fun hdi => ipos rfl (fin i m2 ?_ (by omega) o2 g2))⟩
            · rw [if_pos hdi] at hr
              rw [g2, show nI (q + i) - nI q = nI i by rw [show nI (q + i) - nI q = nI (q + i - q) from pk_sub (by omega), show q + i - q = i by omega], nI_clamp (by omega), hT2.2.2 _ (by omega), nI_1]
              refine ite_go (fun e4 => ?_) (fun e4 => ⟨vp_in_nI (by omega) (by decide), ?_⟩)
              · have e4 : i = 4 := (nI_eq (b := 4) (by omega) (by decide)).mp e4
                subst e4
                have := (rn_p (T := T) (P := isDg) (p := q + 4 + 1) (by omega)).1
                refine m_failP (k := 1) (p := q + 4) hG2 (by rw [o2.1 _ _ (by omega)]; exact a2) (by omega) (by omega) (fun m4 o4 x => h2 1 (q + 4) ?_ 0 m4 (offM_tr (offM_tr o' (offM_mono o2 (fun c j y => by unfold wLx; omega))) o4) x)
                rw [hnu, hten, if_neg (by omega)]
              · have e4 : i ≠ 4 := fun z => e4 (by rw [z]; rfl)
                exact ih (i + 1) _ (by omega) (by omega) (by omega) (by rw [show q + (i + 1) = q + i + 1 by omega]; exact hr) (offM_tr o2 (offM_uI ⟨rfl, rfl⟩)) (by rw [uI_at]; rfl)
            · rw [if_neg (by rw [hdi]; decide)] at hr; exact hr
      have := loop 5 0 m (by omega) (by omega) (by omega) rfl offM_rf a5
      rw [a5]
      exact this
    · rcases tkk_c T q with ⟨b1, b2, b3⟩ | ⟨b1, b2, b3, b4, b5⟩ | ⟨b1, b2, b3, b4, b5⟩ | ⟨b1, b2, b3, b4⟩
      · omega
      · rw [b1] at z; exact absurd z (by decide)
      · rw [hd] at b4; exact absurd b4 (by decide)
      · rw [b1] at z; exact absurd z (by decide)
  · rw [if_neg hqn]
    have hm1 : isDg (-1) = false := by decide
    refine m_isDigit hGm (fun z => by rw [hm1] at z; exact absurd z (by decide)) (fun _ => ipos rfl (bad (fun z => ?_)))
    unfold tkk at z
    rw [if_pos (by omega)] at z
    exact absurd z (by decide)
/-! codes, and what waits: a stack whose top is first -/
def stR : List Nat → (Nat → Int32) → Prop
  | [], _ => True
  | v :: F, f => f F.length = nI v ∧ stR F f
theorem stR_of : ∀ (F : List Nat) (f g : Nat → Int32), stR F f → (∀ j, j < F.length → g j = f j) → stR F g
  | [], f, g, _, _ => trivial
  | v :: F, f, g, h, hg => ⟨by rw [hg _ (by show F.length < F.length + 1; omega)]; exact h.1, stR_of F f g h.2 (fun j hj => hg j (by show j < F.length + 1; omega))⟩
/-- codes C, the stack S above the base B, as many opened as o -/
def mQs (T : dT) (tk q : Nat) (C S B : List Nat) (o : Nat) (M : mm_M) : Prop := mLx T q M ∧ M.1 164 105 = nI C.length ∧ (∀ (j c : Nat), C[j]? = some c → M.1 239 j = nI c) ∧ M.1 164 107 = nI (S ++ B).length ∧ stR (S ++ B) (M.1 240) ∧ M.1 164 109 = nI B.length ∧ M.1 164 108 = nI o ∧ M.1 164 49 = nI tk ∧ tk < 4 ∧ o ≤ 6 ∧ mWd M ∧ (∀ v ∈ S ++ B, 1 ≤ v ∧ v ≤ 61)
def wQs (c j : Nat) : Prop := wLx c j ∨ c = 239 ∨ c = 240 ∨ (c = 164 ∧ (j = 105 ∨ j = 107 ∨ j = 108 ∨ j = 109))
theorem wLx_Q {M m : mm_M} (h : offM wLx M m) : offM wQs M m := offM_mono h (fun c j z => Or.inl z)
section
variable {T : dT} {tk q o d : Nat} {C S B : List Nat} {M : mm_M}
theorem mQs_lx {q' : Nat} {m : mm_M} (h : mQs T tk q C S B o M) (o' : offM wLx M m) (hl : mLx T q' m) : mQs T tk q' C S B o m := by
  obtain ⟨h1, h2, h3, h4, h5, h6, h7, h8, h9, h10, h11, h12⟩ := h
  have g : ∀ j, 49 ≤ j → m.1 164 j = M.1 164 j := fun j hj => o'.1 _ _ (by unfold wLx; omega)
  refine ⟨hl, by rw [g _ (by omega)]; exact h2, fun j c hc => by rw [o'.1 _ _ (by unfold wLx; omega)]; exact h3 j c hc, by rw [g _ (by omega)]; exact h4, stR_of _ _ _ h5 (fun j _ => o'.1 _ _ (by unfold wLx; omega)), by rw [g _ (by omega)]; exact h6, by rw [g _ (by omega)]; exact h7, by rw [g _ (by omega)]; exact h8, h9, h10, mWd_off h11 (offA_M o') (fun c j z => by unfold wLx at z; omega), h12⟩
theorem mQs_w {i : Nat} (h : mQs T tk q C S B o M) (hi : i < 22) : wOf M (217 + i) (wq.getD i 0) := h.2.2.2.2.2.2.2.2.2.2.1.2 i hi
theorem m_qCodeP {c : Nat} {K : mm_M → Prop} (hG : mm_G M.2.2) (h : mQs T tk q C S B o M) (hb : C.length < 1690) (hK : ∀ m, offM wQs M m → mQs T tk q (C ++ [c]) S B o m → K m) : mm_CV mX12_qCode d [.ref 164, .int (nI c)] M K := by
  obtain ⟨h1, h2, h3, h4, h5, h6, h7, h8, h9, h10, h11, h12⟩ := h
  refine rX12_qCode hG ?_
  rw [h2, nI_clamp (by omega), uI_c (by decide), h2, nI_1]
  refine ⟨vp_in_nI (by omega) (by decide), ?_⟩
  have o' : offM (fun c j => c = 239 ∨ (c = 164 ∧ j = 105)) M (mm_uI (mm_uI M 239 C.length (nI c)) 164 105 (nI (C.length + 1))) := offM_tr (offM_uI (Or.inl rfl)) (offM_uI (Or.inr ⟨rfl, rfl⟩))
  refine hK _ (offM_mono o' (fun c j z => by unfold wQs; omega)) ⟨mLx_off h1 o' (fun c j z => by omega), by rw [uI_at, List.length_append]; rfl, fun j y hy => ?_, by rw [o'.1 _ _ (by omega)]; exact h4, stR_of _ _ _ h5 (fun j _ => o'.1 _ _ (by omega)), by rw [o'.1 _ _ (by omega)]; exact h6, by rw [o'.1 _ _ (by omega)]; exact h7, by rw [o'.1 _ _ (by omega)]; exact h8, h9, h10, mWd_off h11 (offA_M o') (fun c j z => by omega), h12⟩
  rw [uI_c (by decide)]
  by_cases e : j = C.length
  · subst e
    rw [List.getElem?_append_right (Nat.le_refl _), Nat.sub_self] at hy
    obtain rfl : c = y := Option.some.inj hy
    exact uI_at _ _ _ _
  · have hl : j < (C ++ [c]).length := (List.getElem?_eq_some_iff.mp hy).1
    rw [List.length_append] at hl
    have hl : j < C.length + 1 := hl
    rw [List.getElem?_append_left (by omega)] at hy
    rw [uI_j (by omega)]; exact h3 j y hy
theorem m_qDropsP {v : Nat} {K : mm_M → Prop} (hG : mm_G M.2.2) (h : mQs T tk q C (v :: S) B o M) (hb : C.length + (v :: S ++ B).length < 1690) (hK : ∀ m, offM wQs M m → mQs T tk q (C ++ [v]) S B o m → K m) : mm_CV mX12_qDrops (d + 1) [.ref 164] M K := by
  obtain ⟨h1, h2, h3, h4, h5, h6, h7, h8, h9, h10, h11, h12⟩ := h
  have el : (v :: S ++ B).length = (S ++ B).length + 1 := rfl
  rw [el] at hb h4
  have h5 : M.1 240 (S ++ B).length = nI v ∧ stR (S ++ B) (M.1 240) := h5
  refine rX12_qDrops hG ?_
  rw [h4, show nI ((S ++ B).length + 1) - 1 = nI (S ++ B).length from pk_sub (a := (S ++ B).length + 1) (b := 1) (by omega), uI_at, nI_clamp (by omega), uI_c (by decide), h5.1]
  refine ⟨vp_in_nI (by omega) (by decide), ?_⟩
  have o' : offM (fun c j => c = 164 ∧ j = 107) M (mm_uI M 164 107 (nI (S ++ B).length)) := offM_uI ⟨rfl, rfl⟩
  have h' : mQs T tk q C S B o (mm_uI M 164 107 (nI (S ++ B).length)) := ⟨mLx_off h1 o' (fun c j z => by omega), by rw [o'.1 _ _ (by omega)]; exact h2, fun j c hc => by rw [o'.1 _ _ (by omega)]; exact h3 j c hc, uI_at _ _ _ _, h5.2, by rw [o'.1 _ _ (by omega)]; exact h6, by rw [o'.1 _ _ (by omega)]; exact h7, by rw [o'.1 _ _ (by omega)]; exact h8, h9, h10, mWd_off h11 (offA_M o') (fun c j z => by omega), fun x hx => h12 x (List.mem_cons_of_mem _ hx)⟩
  exact m_qCodeP (M := mm_uI M 164 107 (nI (S ++ B).length)) (by rw [o'.2.2]; exact hG) h' (by omega) (fun m o2 s2 => hK m (offM_tr (offM_mono o' (fun c j z => by unfold wQs; omega)) o2) s2)
theorem mQs_push {v : Nat} (h : mQs T tk q C S B o M) (hv : 1 ≤ v ∧ v ≤ 61) : mQs T tk q C (v :: S) B o (mm_uI (mm_uI M 240 (S ++ B).length (nI v)) 164 107 (nI ((S ++ B).length + 1))) := by
  obtain ⟨h1, h2, h3, h4, h5, h6, h7, h8, h9, h10, h11, h12⟩ := h
  have o' : offM (fun c j => (c = 240 ∧ j = (S ++ B).length) ∨ (c = 164 ∧ j = 107)) M (mm_uI (mm_uI M 240 (S ++ B).length (nI v)) 164 107 (nI ((S ++ B).length + 1))) := offM_tr (offM_uI (Or.inl ⟨rfl, rfl⟩)) (offM_uI (Or.inr ⟨rfl, rfl⟩))
  refine ⟨mLx_off h1 o' (fun c j z => by omega), by rw [o'.1 _ _ (by omega)]; exact h2, fun j c hc => by rw [o'.1 _ _ (by omega)]; exact h3 j c hc, by rw [uI_at]; rfl, ⟨?_, stR_of (S ++ B) _ _ h5 (fun (j : Nat) (hj : j < (S ++ B).length) => o'.1 _ _ (by omega))⟩, by rw [o'.1 _ _ (by omega)]; exact h6, by rw [o'.1 _ _ (by omega)]; exact h7, by rw [o'.1 _ _ (by omega)]; exact h8, h9, h10, mWd_off h11 (offA_M o') (fun c j z => by omega), fun x hx => ?_⟩
  · rw [uI_c (by decide)]; exact uI_at _ _ _ _
  · rcases List.mem_cons.mp hx with rfl | hx
    · exact hv
    · exact h12 x hx
theorem mQs_o {o2 : Nat} (h : mQs T tk q C S B o M) (ho : o2 ≤ 6) : mQs T tk q C S B o2 (mm_uI M 164 108 (nI o2)) := by
  obtain ⟨h1, h2, h3, h4, h5, h6, h7, h8, h9, h10, h11, h12⟩ := h
  have o' : offM (fun c j => c = 164 ∧ j = 108) M (mm_uI M 164 108 (nI o2)) := offM_uI ⟨rfl, rfl⟩
  exact ⟨mLx_off h1 o' (fun c j z => by omega), by rw [o'.1 _ _ (by omega)]; exact h2, fun j c hc => by rw [o'.1 _ _ (by omega)]; exact h3 j c hc, by rw [o'.1 _ _ (by omega)]; exact h4, stR_of _ _ _ h5 (fun j _ => o'.1 _ _ (by omega)), by rw [o'.1 _ _ (by omega)]; exact h6, uI_at _ _ _ _, by rw [o'.1 _ _ (by omega)]; exact h8, h9, ho, mWd_off h11 (offA_M o') (fun c j z => by omega), h12⟩
theorem m_opensP {v pl : Nat} {K : mm_M → Prop} (hG : mm_G M.2.2) (h : mQs T tk q C S B o M) (hb : (S ++ B).length < 1690) (hv : 1 ≤ v ∧ v ≤ 61) (hp : pl ≤ 1600) (h1 : o < 6 → ∀ m, offM wQs M m → mQs T tk q C (v :: S) B (o + 1) m → m.1 164 2 = M.1 164 2 → m.1 164 4 = M.1 164 4 → K m) (h2 : o = 6 → ∀ m, offM wLx M m → mXs 4 pl m → K m) : mm_CV mX12_qOpens (d + 1) [.ref 164, .int (nI v), .int (nI pl)] M K := by
  have hbad : M.1 164 5 = 0 := by obtain ⟨p, h⟩ := h.1; exact h.2.1
  have ho := h.2.2.2.2.2.2.2.2.2.1
  refine rX12_qOpens hG (ipos hbad ?_)
  rw [h.2.2.2.2.2.2.1]
  by_cases c : o = 6
  · exact ipos (by rw [c]; rfl) (m_failP (k := 4) hG hbad (by omega) hp (fun m o' x => h2 c m o' x))
  · refine ineg (fun z => c ((nI_eq (b := 6) (by omega) (by decide)).mp z)) ?_
    have h' := mQs_o (o2 := o + 1) h (by omega)
    have hp' := mQs_push h' hv
    rw [nI_1, uI_j (by decide), h.2.2.2.1, nI_clamp (by omega), uI_c (by decide), uI_j (by decide), h.2.2.2.1, nI_1]
    refine ⟨vp_in_nI (by omega) (by decide), h1 (by omega) _ (offM_tr (offM_uI (by unfold wQs; omega)) (offM_tr (offM_uI (by unfold wQs; omega)) (offM_uI (by unfold wQs; omega)))) hp' ?_ ?_⟩
    · rw [uI_j (by decide), uI_c (by decide), uI_j (by decide)]
    · rw [uI_j (by decide), uI_c (by decide), uI_j (by decide)]
theorem m_isOn {x : Nat} {K : Int32 → mm_M → Prop} (hG : mm_G M.2.2) (h : mQs T tk q C S B o M) (hb : (S ++ B).length < 1690) (hx : x < 100) (h1 : (S ++ B).head? = some x → K 1 M) (h0 : (S ++ B).head? ≠ some x → K 0 M) : mm_CI mX12_qIsOn d [.ref 164, .int (nI x)] M K := by
  have h4 := h.2.2.2.1
  have h5 := h.2.2.2.2.1
  have h12 := h.2.2.2.2.2.2.2.2.2.2.2
  refine rX12_qIsOn hG ?_
  rw [h4]
  generalize S ++ B = F at h5 h12 hb h1 h0 ⊢
  cases F with
  | nil => exact ipos (by decide) (h0 (fun z => by cases z))
  | cons v F =>
    have el : (v :: F).length = F.length + 1 := rfl
    rw [el] at hb ⊢
    have h5 : M.1 240 F.length = nI v ∧ stR F (M.1 240) := h5
    have hv := h12 v List.mem_cons_self
    refine ineg (nI_ge (b := F.length + 1) (a := 0) (by omega) (by omega)) ?_
    rw [show nI (F.length + 1) - 1 = nI F.length from pk_sub (a := F.length + 1) (b := 1) (by omega), nI_clamp (by omega), h5.1]
    refine ⟨vp_in_nI (by omega) (by decide), ite_go (fun e => h1 ?_) (fun e => h0 (fun z => e ?_))⟩
    · show some v = some x
      rw [(nI_eq (by omega) (by omega)).mp e]
    · have : some v = some x := z
      rw [Option.some.inj this]
theorem m_isBr {v : Nat} {K : Int32 → mm_M → Prop} (hG : mm_G M.2.2) (hv : v ≤ 61) (h1 : isBr v = true → K 1 M) (h0 : isBr v = false → K 0 M) : mm_CI mX12_qIsBracket d [.int (nI v)] M K := by
  unfold isBr at h1 h0
  refine rX12_qIsBracket hG ?_
  by_cases c : v < 20
  · exact ipos (nI_lt (b := 20) c (by decide)) (h0 (decide_eq_false (by omega)))
  · refine ineg (nI_nlt (b := 20) (by omega) (by omega)) ?_
    by_cases c2 : 24 < v
    · exact ipos (nI_lt (a := 24) c2 (by omega)) (h0 (decide_eq_false (by omega)))
    · exact ineg (nI_nlt (a := 24) (by omega) (by decide)) (h1 (decide_eq_true (by omega)))
def brR (S : List Nat) : Int32 := match brk S with
  | [] => -1
  | v :: _ => nI v
theorem brk_c (v : Nat) (S : List Nat) : brk (v :: S) = if isBr v then v :: S else brk S := by
  unfold brk
  rw [List.dropWhile_cons]
  cases isBr v <;> rfl
theorem ops_c (v : Nat) (S : List Nat) : ops (v :: S) = if isBr v then [] else v :: ops S := by
  unfold ops
  rw [List.takeWhile_cons]
  cases isBr v <;> rfl
theorem m_brk {K : Int32 → mm_M → Prop} (hG : mm_G M.2.2) (h : mQs T tk q C S B o M) (hb : (S ++ B).length < 1690) (hK : K (brR S) M) : mm_CI mX12_qBracket (d + 1) [.ref 164] M K := by
  have h4 := h.2.2.2.1
  have h5 := h.2.2.2.2.1
  have h6 := h.2.2.2.2.2.1
  have h12 := h.2.2.2.2.2.2.2.2.2.2.2
  refine rX12_qBracket hG ?_
  rw [h4]
  have loop : ∀ (R : List Nat), (R ++ B).length < 1690 → stR (R ++ B) (M.1 240) → (∀ v ∈ R ++ B, 1 ≤ v ∧ v ≤ 61) → brR R = brR S → jX12_qBracket_7 d M K (nI (R ++ B).length - 1) := by
    intro R
    induction R with
    | nil =>
      intro l1 l2 l3 l4
      refine lX12_qBracket_7 hG ?_
      rw [h6]
      have e : nI ([] ++ B : List Nat).length - 1 < nI B.length := by
        show nI B.length - 1 < nI B.length
        have l1 : B.length < 1690 := l1
        rw [i32_lt, Int32.toInt_sub, nI_toInt (by omega)]
        show ((B.length : Int) - 1).bmod _ < _
        rw [bm32 (by omega) (by omega)]
        omega
      refine ipos e (ipos e ?_)
      have : brR S = -1 := l4.symm
      rw [this] at hK; exact hK
    | cons v R ih =>
      intro l1 l2 l3 l4
      have el : (v :: R ++ B).length = (R ++ B).length + 1 := rfl
      rw [el] at l1 ⊢
      have l2 : M.1 240 (R ++ B).length = nI v ∧ stR (R ++ B) (M.1 240) := l2
      have hv := l3 v List.mem_cons_self
      have hbl : B.length ≤ (R ++ B).length := by rw [List.length_append]; omega
      rw [show nI ((R ++ B).length + 1) - 1 = nI (R ++ B).length from pk_sub (a := (R ++ B).length + 1) (b := 1) (by omega)]
      refine lX12_qBracket_7 hG ?_
      rw [h6, nI_clamp (by omega), l2.1]
      have eb : brR (v :: R) = if isBr v then nI v else brR R := by
        unfold brR
        rw [brk_c]
        cases isBr v <;> rfl
      rw [eb] at l4
      refine ineg (nI_nlt hbl (by omega)) ⟨vp_in_nI (by omega) (by decide), m_isBr hG hv.2 (fun hy => ineg (by decide) ?_) (fun hy => ipos rfl ?_)⟩
      · rw [if_pos hy] at l4
        rw [h6, l2.1, l4]
        exact ineg (nI_nlt hbl (by omega)) ⟨vp_in_nI (by omega) (by decide), hK⟩
      · rw [if_neg (by rw [hy]; decide)] at l4
        have := ih (by omega) l2.2 (fun x hx => l3 x (List.mem_cons_of_mem _ hx)) l4
        rw [Int32.sub_eq_add_neg] at this
        exact this
  exact loop S hb h5 h12 rfl
theorem m_dropsBr {K : mm_M → Prop} (hG : mm_G M.2.2) (h : mQs T tk q C S B o M) (hb : C.length + (S ++ B).length < 1690) (hK : ∀ m, offM wQs M m → mQs T tk q (C ++ ops S) (brk S) B o m → K m) : mm_CV mX12_qDropsToBracket (d + 2) [.ref 164] M K := by
  have loop : ∀ (R D : List Nat) (m : mm_M), offM wQs M m → mQs T tk q D R B o m → D.length + (R ++ B).length < 1690 → D ++ ops R = C ++ ops S → brk R = brk S → (if (m.1 164 107) ≤ (m.1 164 109) then (K m) else (vp_in ((m.1 164 107) - 1) 1700 ∧ mm_CI mX12_qIsBracket (d + 1) [.int (m.1 240 ((m.1 164 107) - 1).toNatClampNeg)] m (fun z22 m22 => if z22 = 0 then (mm_CV mX12_qDrops (d + 1) [.ref 164] m22 (fun m29 => jX12_qDropsToBracket_0 (d + 1) m29 K)) else (K m22)))) := by
    intro R
    induction R with
    | nil =>
      intro D m o' s' l1 l2 l3
      rw [s'.2.2.2.1, s'.2.2.2.2.2.1]
      refine ipos (nI_le (Nat.le_refl _) (by have : D.length + B.length < 1690 := l1; omega)) (hK m o' ?_)
      rw [← l2, ← l3]
      show mQs T tk q (D ++ []) [] B o m
      rw [List.append_nil]; exact s'
    | cons v R ih =>
      intro D m o' s' l1 l2 l3
      have hGm : mm_G m.2.2 := by rw [o'.2.2]; exact hG
      have el : (v :: R ++ B).length = (R ++ B).length + 1 := rfl
      have h5 : m.1 240 (R ++ B).length = nI v ∧ stR (R ++ B) (m.1 240) := s'.2.2.2.2.1
      have hv := s'.2.2.2.2.2.2.2.2.2.2.2 v List.mem_cons_self
      have hbl : B.length ≤ (R ++ B).length := by rw [List.length_append]; omega
      rw [el] at l1
      rw [s'.2.2.2.1, s'.2.2.2.2.2.1, el, show nI ((R ++ B).length + 1) - 1 = nI (R ++ B).length from pk_sub (a := (R ++ B).length + 1) (b := 1) (by omega), nI_clamp (by omega), h5.1]
      refine ineg (nI_ge (by omega) (by omega)) ⟨vp_in_nI (by omega) (by decide), m_isBr hGm hv.2 (fun hy => ineg (by decide) (hK m o' ?_)) (fun hy => ipos rfl (m_qDropsP hGm s' (by rw [el]; omega) (fun m2 o2 s2 => lX12_qDropsToBracket_0 (by rw [o2.2.2]; exact hGm) (ih (D ++ [v]) m2 (offM_tr o' o2) s2 ?_ ?_ ?_))))⟩
      · rw [brk_c, if_pos hy] at l3
        rw [ops_c, if_pos hy, List.append_nil] at l2
        rw [← l2, ← l3]; exact s'
      · rw [List.length_append]
        show D.length + 1 + _ < _
        omega
      · rw [ops_c, if_neg (by rw [hy]; decide)] at l2
        rw [List.append_assoc]; exact l2
      · rw [brk_c, if_neg (by rw [hy]; decide)] at l3; exact l3
  exact rX12_qDropsToBracket hG (loop S C M offM_rf h hb rfl rfl)
end
