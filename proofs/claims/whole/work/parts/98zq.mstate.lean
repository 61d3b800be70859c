/-! ===== the reference reads a duchy's text ===== -/
section
variable {T : dT} {q i d : Nat} {R : dR} {M : mm_M}
theorem stB_of {r : dZ} (hst : stB T q R r) : (wdn T q = nI 1 → r = houseB T q R) ∧ (wdn T q = nI 4 → r = fdB T q R) ∧ (∀ k, k < 5 → wdn T q = nI (7 + k) → ruleB T k q R r) ∧ (wdn T q = nI 12 → r = famB T q R) ∧ ((wdn T q ≠ nI 1 ∧ wdn T q ≠ nI 4 ∧ (∀ k, k < 5 → wdn T q ≠ nI (7 + k)) ∧ wdn T q ≠ nI 12) → r = .inr (1, q)) := by
  have uq : ∀ a b : Nat, a < 100 → b < 100 → wdn T q = nI a → wdn T q = nI b → a = b := fun a b ha hb h1 h2 => (nI_eq (by omega) (by omega)).mp (h1.symm.trans h2)
  rcases hst with ⟨hw, hr⟩ | ⟨hw, hr⟩ | ⟨j, hj, hw, hr⟩ | ⟨hw, hr⟩ | ⟨hw, hr⟩
  · have hw : wdn T q = nI 1 := hw
    exact ⟨fun _ => hr, fun z => absurd (uq 1 4 (by omega) (by omega) hw z) (by omega), fun k hk z => absurd (uq 1 (7 + k) (by omega) (by omega) hw z) (by omega), fun z => absurd (uq 1 12 (by omega) (by omega) hw z) (by omega), fun z => absurd hw z.1⟩
  · have hw : wdn T q = nI 4 := hw
    exact ⟨fun z => absurd (uq 4 1 (by omega) (by omega) hw z) (by omega), fun _ => hr, fun k hk z => absurd (uq 4 (7 + k) (by omega) (by omega) hw z) (by omega), fun z => absurd (uq 4 12 (by omega) (by omega) hw z) (by omega), fun z => absurd hw z.2.1⟩
  · refine ⟨fun z => absurd (uq (7 + j) 1 (by omega) (by omega) hw z) (by omega), fun z => absurd (uq (7 + j) 4 (by omega) (by omega) hw z) (by omega), fun k hk z => ?_, fun z => absurd (uq (7 + j) 12 (by omega) (by omega) hw z) (by omega), fun z => absurd hw (z.2.2.1 j hj)⟩
    have := uq (7 + j) (7 + k) (by omega) (by omega) hw z
    obtain rfl : j = k := by omega
    exact hr
  · have hw : wdn T q = nI 12 := hw
    exact ⟨fun z => absurd (uq 12 1 (by omega) (by omega) hw z) (by omega), fun z => absurd (uq 12 4 (by omega) (by omega) hw z) (by omega), fun k hk z => absurd (uq 12 (7 + k) (by omega) (by omega) hw z) (by omega), fun _ => hr, fun z => absurd hw z.2.2.2⟩
  · exact ⟨fun z => absurd z hw.1, fun z => absurd z hw.2.1, fun k hk z => absurd z (hw.2.2.1 k hk), fun z => absurd z hw.2.2.2, fun _ => hr⟩
/-- the sign behind a statement -/
theorem m_sign {r : dZ} {m0 : mm_M} {K : mm_M → Prop} (hG : mm_G M.2.2) (oM : offM wMd m0 M) (h : (∃ q' R', r = .inl (q', R') ∧ mDs T q' R' i M) ∨ ∃ k p, r = .inr (k, p) ∧ mXs k p M) (hi : i < 60)
    (ok : ∀ q' R', bindS T r = .inl (q', R') → ∀ m, offM wMd m0 m → mDs T q' R' (i + 1) m → K m)
    (no : ∀ k p, bindS T r = .inr (k, p) → ∀ m, offM wMd m0 m → mXs k p m → K m) : mm_CV mX12_asksSign (d + 2) [.ref 164, .int 59] M (fun m182 => K (mm_uI m182 164 47 ((m182.1 164 47) + 1))) := by
  have up : ∀ (m : mm_M) (z : Int32), offM (fun c j => c = 164 ∧ j = 47) m (mm_uI m 164 47 z) := fun m z => offM_uI ⟨rfl, rfl⟩
  have upD : ∀ (m : mm_M) (z : Int32), offM wMd m (mm_uI m 164 47 z) := fun m z => offM_mono (up m z) (fun c j q => by unfold wMd; omega)
  rcases h with ⟨q', R', rfl, hD⟩ | ⟨k, p, rfl, x⟩
  · refine m_asksS hG hD.1 (by decide) (by decide) (fun hs m o l => ?_) (fun hs m o x => ?_)
    · have D := mDs_x hD o l
      rw [D.2.2.2, nI_1]
      refine ok (nxt T q') R' ?_ _ (offM_tr (offM_tr oM (wLx_D o)) (upD m _)) ⟨mLx_off D.1 (up m _) (fun c j z => by omega), mWd_m D.2.1 (up m _) (fun c j z => by omega), mDr_off D.2.2.1 (up m _) (fun c j z => by omega), uI_at _ _ _ _⟩
      show enSg T q' R' = _
      unfold enSg
      rw [if_pos hs]
    · refine no 1 q' ?_ _ (offM_tr (offM_tr oM (wLx_D o)) (upD m _)) (mXs_off x (up m _) (fun c j z => by omega))
      show enSg T q' R' = _
      unfold enSg
      rw [if_neg (by rw [hs]; decide)]
  · exact m_asksSX (d := d + 1) hG x (no k p rfl _ (offM_tr oM (upD M _)) (mXs_off x (up M _) (fun c j z => by omega)))
set_option maxHeartbeats 2000000 in
theorem m_statement {r : dZ} {K : mm_M → Prop} (hG : mm_G M.2.2) (hD : mDs T q R i M) (h2 : M.1 164 2 = nI q) (v : vR T q R) (hi : i < 60) (hst : stB T q R r)
    (ok : ∀ q' R', bindS T r = .inl (q', R') → ∀ m, offM wMd M m → mDs T q' R' (i + 1) m → K m)
    (no : ∀ k p, bindS T r = .inr (k, p) → ∀ m, offM wMd M m → mXs k p m → K m) : mm_CV mX12_statementTold (d + 15) [.ref 164] M K := by
  obtain ⟨s1, s4, s7, s12, s0⟩ := stB_of hst
  have hq := v.2.2.2.2.2.2.2.2.2.2.2.2.2
  have n1 := nxt_b hq
  have G : ∀ m, offM wMd M m → mm_G m.2.2 := fun m o => by rw [o.2.2]; exact hG
  have fin : stK r (fun q' R' => ∀ m, offM wMd M m → mDs T q' R' i m → mm_CV mX12_asksSign (d + 14) [.ref 164, .int 59] m (fun m182 => K (mm_uI m182 164 47 ((m182.1 164 47) + 1)))) (fun k p => ∀ m, offM wMd M m → mXs k p m → mm_CV mX12_asksSign (d + 14) [.ref 164, .int 59] m (fun m182 => K (mm_uI m182 164 47 ((m182.1 164 47) + 1)))) := by
    cases r with
    | inl y => exact fun m o D => m_sign (d := d + 12) (G m o) o (Or.inl ⟨y.1, y.2, rfl, D⟩) hi ok no
    | inr y => exact fun m o x => m_sign (d := d + 12) (G m o) o (Or.inr ⟨y.1, y.2, rfl, x⟩) hi ok no
  refine rX12_statementTold hG ?_
  rw [hD.2.2.2, h2]
  have rule : ∀ (k : Nat) (m : mm_M), k < 5 → wdn T q = nI (7 + k) → offM wLx M m → mLx T (nxt T q) m → mm_CV mX12_codesTold (d + 14) [.ref 164, .int (nI k), .int (nI q)] m (fun m152 => mm_CV mX12_asksSign (d + 14) [.ref 164, .int 59] m152 (fun m182 => K (mm_uI m182 164 47 ((m182.1 164 47) + 1)))) := fun k m hk hw o l => m_codesD (d := d) (G m (wLx_D o)) (wLx_D o) (mDs_x hD o l) v hk (s7 k hk hw) fin
  refine ineg (fun z => by have := (nI_eq (a := i) (b := 60) (by omega) (by decide)).mp z; omega) ?_
  refine m_takesD (i := 1) (d := d + 12) (by omega) hG hD.1 hD.2.1 (fun w m o l => ineg (by decide) ?_) (fun w1 m1 o1 l1 => ipos rfl ?_)
  · have e := s1 w
    rw [e] at fin
    exact m_house (d := d + 9) (G m (wLx_D o)) (wLx_D o) (mDs_x hD o l) v fin
  have D1 := mDs_x hD o1 ⟨_, l1⟩
  refine m_takesD (i := 4) (d := d + 12) (by omega) (G m1 (wLx_D o1)) D1.1 D1.2.1 (fun w m o l => ineg (by decide) ?_) (fun w4 m4 o4 l4 => ipos rfl ?_)
  · have e := s4 w
    rw [e] at fin
    have o' := offM_tr o1 o
    exact m_feudD (d := d + 9) (G m (wLx_D o')) (wLx_D o') (mDs_x hD o' l) v fin
  have a4 := offM_tr o1 o4
  have D4 := mDs_x hD a4 ⟨_, l4⟩
  refine m_takesD (i := 7) (d := d + 12) (by omega) (G m4 (wLx_D a4)) D4.1 D4.2.1 (fun w m o l => ineg (by decide) (rule 0 m (by omega) w (offM_tr a4 o) l)) (fun w7 m7 o7 l7 => ipos rfl ?_)
  have a7 := offM_tr a4 o7
  have D7 := mDs_x hD a7 ⟨_, l7⟩
  refine m_takesD (i := 8) (d := d + 12) (by omega) (G m7 (wLx_D a7)) D7.1 D7.2.1 (fun w m o l => ineg (by decide) (rule 1 m (by omega) w (offM_tr a7 o) l)) (fun w8 m8 o8 l8 => ipos rfl ?_)
  have a8 := offM_tr a7 o8
  have D8 := mDs_x hD a8 ⟨_, l8⟩
  refine m_takesD (i := 9) (d := d + 12) (by omega) (G m8 (wLx_D a8)) D8.1 D8.2.1 (fun w m o l => ineg (by decide) (rule 2 m (by omega) w (offM_tr a8 o) l)) (fun w9 m9 o9 l9 => ipos rfl ?_)
  have a9 := offM_tr a8 o9
  have D9 := mDs_x hD a9 ⟨_, l9⟩
  refine m_takesD (i := 10) (d := d + 12) (by omega) (G m9 (wLx_D a9)) D9.1 D9.2.1 (fun w m o l => ineg (by decide) (rule 3 m (by omega) w (offM_tr a9 o) l)) (fun wA mA oA lA => ipos rfl ?_)
  have aA := offM_tr a9 oA
  have DA := mDs_x hD aA ⟨_, lA⟩
  refine m_takesD (i := 11) (d := d + 12) (by omega) (G mA (wLx_D aA)) DA.1 DA.2.1 (fun w m o l => ineg (by decide) (rule 4 m (by omega) w (offM_tr aA o) l)) (fun wB mB oB lB => ipos rfl ?_)
  have aB := offM_tr aA oB
  have DB := mDs_x hD aB ⟨_, lB⟩
  have e1 : (1 : Int32).toNatClampNeg = 1 := rfl
  rw [e1]
  have xx : ∀ (k p : Nat) (z : Int32) (m : mm_M), r = .inr (k, p) → offM wLx M m → mXs k p m → mm_CV mX12_asksSign (d + 14) [.ref 164, .int 59] (mm_uI m 191 1 z) (fun m182 => K (mm_uI m182 164 47 ((m182.1 164 47) + 1))) := fun k p z m hr o x => by
    have o' : offM (fun c j => c = 191 ∧ j = 1) m (mm_uI m 191 1 z) := offM_uI ⟨rfl, rfl⟩
    have o2 : offM wMd M (mm_uI m 191 1 z) := offM_tr (wLx_D o) (offM_mono o' (fun c j y => by unfold wMd; omega))
    exact m_sign (d := d + 12) (G _ o2) o2 (Or.inr ⟨k, p, hr, mXs_off x o' (fun c j y => by omega)⟩) hi ok no
  refine m_asksD (i := 12) (d := d + 11) (by omega) (G mB (wLx_D aB)) DB.1 DB.2.1 (fun w m o l => ?_) (fun wC m o x => ?_)
  · have hr := s12 w
    unfold famB numF at hr
    have a := offM_tr aB o
    have D := mDs_x hD a l
    refine m_num (lo := 0) (hi := 100) (d := d + 13) (G m (wLx_D a)) l (by omega) (by omega) (fun hu m' o' l' => ?_) (fun k p hu z m' o' x' => ?_)
    · rw [hu] at hr
      have a' := offM_tr a o'
      have D' := mDs_x hD a' l'
      have o3 : offM (fun c j => c = 191 ∧ j = 1) m' (mm_uI m' 191 1 (vlu T (nxt T q))) := offM_uI ⟨rfl, rfl⟩
      have o2 : offM wMd M (mm_uI m' 191 1 (vlu T (nxt T q))) := offM_tr (wLx_D a') (offM_mono o3 (fun c j y => by unfold wMd; omega))
      refine m_sign (d := d + 12) (G _ o2) o2 (Or.inl ⟨_, _, hr, mLx_off l' o3 (fun c j z => by omega), mWd_m D'.2.1 o3 (fun c j z => by omega), ?_, by rw [o3.1 _ _ (by omega)]; exact D'.2.2.2⟩) hi ok no
      obtain ⟨d1, d2, d3, d4, d5, d6, d7⟩ := D'.2.2.1
      refine ⟨by rw [o3.1 _ _ (by omega)]; exact d1, by rw [o3.1 _ _ (by omega)]; exact d2, uI_at _ _ _ _, fun h hh => by rw [o3.1 193 h (by omega), o3.1 194 h (by omega)]; exact d4 h hh, fun x y hx hy hxy => by rw [o3.1 _ _ (by omega)]; exact d5 x y hx hy hxy, fun k hk => ⟨fun z => by rw [o3.1 _ _ (by omega)]; exact (d6 k hk).1 z, fun C hC => ?_⟩, by rw [o3.1 _ _ (by omega)]; exact d7⟩
      obtain ⟨f, e, q1, q2, q3, q4, q5⟩ := (d6 k hk).2 C hC
      exact ⟨f, e, by rw [o3.1 _ _ (by omega)]; exact q1, by rw [o3.1 _ _ (by omega)]; exact q2, q3, q4, fun j c hj => by rw [o3.1 _ _ (by omega)]; exact q5 j c hj⟩
    · rw [hu] at hr
      exact xx k p z m' hr (offM_tr a o') x'
  · have hr := s0 ⟨w1, w4, fun k hk => by
      match k, hk with
      | 0, _ => exact w7
      | 1, _ => exact w8
      | 2, _ => exact w9
      | 3, _ => exact wA
      | 4, _ => exact wB, wC⟩
    have a := offM_tr aB o
    exact m_numX (d := d + 13) (G m (wLx_D a)) x (xx 1 q 0 m hr a x)
/-- the head of the text -/
theorem m_head {x : Int32} {J : mm_M → Prop} (hG : mm_G M.2.2) (hl : mLx T (rn T isBl 0) M) (hw : mWd M) (hD : mDr (x, R0.2) M)
    (ok : ∀ q R, bindS T (headB T) = .inl (q, R) → ∀ m, offM wMd M m → mDs T q R 1 m → J m)
    (no : ∀ k p, bindS T (headB T) = .inr (k, p) → ∀ m, offM wMd M m → mXs k p m → J m) : mm_CV mX12_duchyTold (d + 4) [.ref 164] M (fun m92 => J (mm_uI m92 164 47 1)) := by
  have hq0 := mLx_q hl
  have n1 := nxt_b hq0
  have n2 := nxt_b n1.2.1
  have G : ∀ m, offM wMd M m → mm_G m.2.2 := fun m o => by rw [o.2.2]; exact hG
  have e0 : (0 : Int32).toNatClampNeg = 0 := rfl
  have upD : ∀ (m : mm_M), offM (fun c j => c = 164 ∧ j = 47) m (mm_uI m 164 47 1) := fun m => offM_uI ⟨rfl, rfl⟩
  have upM : ∀ (m : mm_M), offM wMd m (mm_uI m 164 47 1) := fun m => offM_mono (upD m) (fun c j q => by unfold wMd; omega)
  have u191 : ∀ (m : mm_M) (z : Int32), offM (fun c j => c = 191 ∧ j = 0) m (mm_uI m 191 0 z) := fun m z => offM_uI ⟨rfl, rfl⟩
  have xx : ∀ (k p : Nat) (z : Int32) (m : mm_M), headB T = .inr (k, p) → offM wLx M m → mXs k p m → mm_CV mX12_asksSign (d + 3) [.ref 164, .int 59] (mm_uI m 191 0 z) (fun m24 => J (mm_uI m24 164 47 1)) := fun k p z m hr o x => by
    have o2 : offM wMd M (mm_uI m 191 0 z) := offM_tr (wLx_D o) (offM_mono (u191 m z) (fun c j y => by unfold wMd; omega))
    have x2 := mXs_off x (u191 m z) (fun c j y => by omega)
    exact m_asksSX (d := d + 2) (G _ o2) x2 (no k p (by rw [hr]; rfl) _ (offM_tr o2 (upM _)) (mXs_off x2 (upD _) (fun c j y => by omega)))
  have eh : headB T = wordF T 0 (rn T isBl 0) (numF T 1 20 (nxt T (rn T isBl 0)) (.inl (nxt T (nxt T (rn T isBl 0)), (vlu T (nxt T (rn T isBl 0)), R0.2)))) := rfl
  unfold wordF numF at eh
  refine rX12_duchyTold hG ?_
  rw [e0]
  refine m_asksD (i := 0) (d := d) (by omega) hG hl hw (fun w m o l => ?_) (fun w m o x => ?_)
  · rw [if_pos (show wdn T _ = 0 from w)] at eh
    refine m_num (lo := 1) (hi := 20) (d := d + 2) (G m (wLx_D o)) l (by omega) (by omega) (fun hu m' o' l' => ?_) (fun k p hu z m' o' x' => ?_)
    · rw [hu] at eh
      have a := offM_tr o o'
      have o3 := u191 m' (vlu T (nxt T (rn T isBl 0)))
      have g3 : (mm_uI m' 191 0 (vlu T (nxt T (rn T isBl 0)))).1 191 0 = vlu T (nxt T (rn T isBl 0)) := uI_at _ _ _ _
      generalize mm_uI m' 191 0 (vlu T (nxt T (rn T isBl 0))) = m3 at o3 g3 ⊢
      have o2 : offM wMd M m3 := offM_tr (wLx_D a) (offM_mono o3 (fun c j y => by unfold wMd; omega))
      have oo : offM (fun c j => wLx c j ∨ (c = 191 ∧ j = 0)) M m3 := offM_tr (offM_mono a (fun c j z => Or.inl z)) (offM_mono o3 (fun c j z => Or.inr z))
      have l3 := mLx_off l' o3 (fun c j z => by omega)
      refine m_asksS (d := d + 1) (G m3 o2) l3 (by decide) (by decide) (fun hs m4 o4 l4 => ?_) (fun hs m4 o4 x4 => ?_)
      · have o5 := upD m4
        have oo5 : offM (fun c j => wLx c j ∨ (c = 191 ∧ j = 0) ∨ (c = 164 ∧ j = 47)) M (mm_uI m4 164 47 1) := offM_tr (offM_tr (offM_mono oo (fun c j z => by rcases z with z | z; exact Or.inl z; exact Or.inr (Or.inl z))) (offM_mono o4 (fun c j z => Or.inl z))) (offM_mono o5 (fun c j z => Or.inr (Or.inr z)))
        refine ok (nxt T (nxt T (nxt T (rn T isBl 0)))) (vlu T (nxt T (rn T isBl 0)), R0.2) ?_ _ (offM_tr (offM_tr o2 (wLx_D o4)) (upM m4)) ⟨mLx_off l4 o5 (fun c j z => by omega), mWd_m hw oo5 (fun c j z => by unfold wLx at z; omega), ?_, uI_at _ _ _ _⟩
        · rw [eh]
          show enSg T _ _ = _
          unfold enSg
          rw [if_pos hs]
        · obtain ⟨d1, d2, d3, d4, d5, d6, d7⟩ := hD
          refine ⟨by rw [oo5.1 _ _ (by unfold wLx; omega)]; exact d1, ?_, by rw [oo5.1 _ _ (by unfold wLx; omega)]; exact d3, fun h hh => by have : h < 0 := hh; omega, fun x y hx hy hxy => by rw [oo5.1 _ _ (by unfold wLx; omega)]; exact d5 x y hx hy hxy, fun k hk => ⟨fun z => by rw [oo5.1 _ _ (by unfold wLx; omega)]; exact (d6 k hk).1 z, fun C hC => (by cases hC)⟩, by rw [oo5.1 _ _ (by unfold wLx; omega)]; exact d7⟩
          rw [o5.1 _ _ (by omega), o4.1 _ _ (by unfold wLx; omega)]; exact g3
      · refine no 1 (nxt T (nxt T (rn T isBl 0))) ?_ _ (offM_tr (offM_tr o2 (wLx_D o4)) (upM m4)) (mXs_off x4 (upD m4) (fun c j y => by omega))
        rw [eh]
        show enSg T _ _ = _
        unfold enSg
        rw [if_neg (by rw [hs]; decide)]
    · rw [hu] at eh
      exact xx k p z m' eh (offM_tr o o') x'
  · rw [if_neg (show ¬ wdn T _ = 0 from w)] at eh
    exact m_numX (d := d + 2) (G m (wLx_D o)) x (xx 1 _ 0 m eh o x)
theorem look_end (hB : ∀ j, inI 0 255 (T.1 j)) : (if q < T.2 then T.1 q else -1) = -1 ↔ tkk T q = 0 := by
  constructor
  · intro h
    by_cases c : q < T.2
    · rw [if_pos c] at h
      have := (hB q).1
      rw [h] at this
      exact absurd this (by decide)
    · unfold tkk; rw [if_pos (by omega)]
  · intro h
    by_cases c : q < T.2
    · exfalso
      unfold tkk at h
      rw [if_neg (by omega)] at h
      by_cases g : glu T q = true
      · rw [if_pos g] at h; exact absurd h (by decide)
      · rw [if_neg g] at h
        rcases knd_c (T.1 q) with ⟨y, -⟩ | ⟨y, -⟩ | ⟨y, -⟩ <;> rw [y] at h <;> exact absurd h (by decide)
    · rw [if_neg c]
theorem m_chain {x : Int32} {K : Int32 → mm_M → Prop} (hB : ∀ j, inI 0 255 (T.1 j)) (hG : mm_G M.2.2) (hl : mLx T (rn T isBl 0) M) (hw : mWd M) (hD : mDr (x, R0.2) M) : ∀ (i q : Nat) (R : dR), rch T (i + 1) q R → i < 60 → (∀ m, offM wMd M m → mDs T q R (i + 1) m → jX12_duchy_100 (d + 15) m K) → mm_CV mX12_duchyTold (d + 15) [.ref 164] M (fun m92 => jX12_duchy_100 (d + 15) (mm_uI m92 164 47 1) K) := by
  intro i
  induction i with
  | zero =>
    intro q R hr hi go
    have hr : bindS T (headB T) = .inl (q, R) := hr
    refine m_head (d := d + 11) (J := fun m => jX12_duchy_100 (d + 15) m K) hG hl hw hD (fun q' R' h m o D => ?_) (fun k p h => ?_)
    · rw [hr] at h
      obtain ⟨rfl, rfl⟩ := Prod.mk.inj (Sum.inl.inj h)
      exact go m o D
    · rw [hr] at h; cases h
  | succ i ih =>
    intro q R hr hi go
    obtain ⟨q0, R0', r, r1, r2, r3, r4⟩ := hr
    refine ih q0 R0' r1 (by omega) (fun m o D => ?_)
    have hGm : mm_G m.2.2 := by rw [o.2.2]; exact hG
    have hbad : m.1 164 5 = 0 := by obtain ⟨p, h⟩ := D.1; exact h.2.1
    refine lX12_duchy_100 hGm (ipos hbad (m_lookP hGm D.1 (fun m1 o1 l1 => ineg (fun z => r2 ((look_end hB).mp z)) ?_)))
    have o1' : offM wLx m m1 := offM_mono o1 (fun c j z => by unfold wLx; omega)
    refine m_statement (d := d) (by rw [o1.2.2]; exact hGm) (mDs_x D o1' ⟨_, l1⟩) l1.2.2.2.2.1 (rch_v _ _ _ r1) (by omega) r3 (fun q' R' h m2 o2 D2 => ?_) (fun k p h => ?_)
    · rw [r4] at h
      obtain ⟨rfl, rfl⟩ := Prod.mk.inj (Sum.inl.inj h)
      exact go m2 (offM_tr (offM_tr o (wLx_D o1')) o2) D2
    · rw [r4] at h; cases h
theorem m_textOk {x : Int32} {K : Int32 → mm_M → Prop} (hB : ∀ j, inI 0 255 (T.1 j)) (hG : mm_G M.2.2) (hl : mLx T (rn T isBl 0) M) (hw : mWd M) (hD : mDr (x, R0.2) M) (ht : txOk T i q R) (hK : ∀ m, offM wMd M m → mDs T q R i m → jX12_duchy_122 (d + 15) m K) : mm_CV mX12_duchyTold (d + 15) [.ref 164] M (fun m92 => jX12_duchy_100 (d + 15) (mm_uI m92 164 47 1) K) := by
  obtain ⟨h1, h2, h3⟩ := ht
  obtain ⟨j, rfl⟩ : ∃ j, i = j + 1 := ⟨i - 1, by
    have : i ≠ 0 := fun z => by rw [z] at h1; exact h1
    omega⟩
  refine m_chain hB hG hl hw hD j q R h1 (by omega) (fun m o D => ?_)
  have hGm : mm_G m.2.2 := by rw [o.2.2]; exact hG
  have hbad : m.1 164 5 = 0 := by obtain ⟨p, h⟩ := D.1; exact h.2.1
  refine lX12_duchy_100 hGm (ipos hbad (m_lookP hGm D.1 (fun m1 o1 l1 => ipos ((look_end hB).mpr h2) ?_)))
  have o1' : offM wLx m m1 := offM_mono o1 (fun c j z => by unfold wLx; omega)
  exact hK m1 (offM_tr o (wLx_D o1')) (mDs_x D o1' ⟨_, l1⟩)
theorem m_textX {x : Int32} {k p : Nat} {K : Int32 → mm_M → Prop} (hB : ∀ j, inI 0 255 (T.1 j)) (hG : mm_G M.2.2) (hl : mLx T (rn T isBl 0) M) (hw : mWd M) (hD : mDr (x, R0.2) M) (ht : txX T k p) (hK : ∀ m, offM wMd M m → mXs k p m → jX12_duchy_122 (d + 15) m K) : mm_CV mX12_duchyTold (d + 15) [.ref 164] M (fun m92 => jX12_duchy_100 (d + 15) (mm_uI m92 164 47 1) K) := by
  have fin : ∀ m, offM wMd M m → mXs k p m → jX12_duchy_100 (d + 15) m K := fun m o x => lX12_duchy_100 (by rw [o.2.2]; exact hG) (ineg (mXn0 x) (hK m o x))
  rcases ht with ht | ⟨i, q, R, r, h1, h2, h3, h4, h5⟩ | ⟨q, R, h1, h2, rfl, rfl⟩
  · refine m_head (d := d + 11) (J := fun m => jX12_duchy_100 (d + 15) m K) hG hl hw hD (fun q' R' h => by rw [ht] at h; cases h) (fun k' p' h m o x => ?_)
    rw [ht] at h
    obtain ⟨rfl, rfl⟩ := Prod.mk.inj (Sum.inr.inj h)
    exact fin m o x
  · obtain ⟨j, rfl⟩ : ∃ j, i = j + 1 := ⟨i - 1, by
      have : i ≠ 0 := fun z => by rw [z] at h1; exact h1
      omega⟩
    refine m_chain hB hG hl hw hD j q R h1 (by omega) (fun m o D => ?_)
    have hGm : mm_G m.2.2 := by rw [o.2.2]; exact hG
    have hbad : m.1 164 5 = 0 := by obtain ⟨p, h⟩ := D.1; exact h.2.1
    refine lX12_duchy_100 hGm (ipos hbad (m_lookP hGm D.1 (fun m1 o1 l1 => ineg (fun z => h3 ((look_end hB).mp z)) ?_)))
    have o1' : offM wLx m m1 := offM_mono o1 (fun c j z => by unfold wLx; omega)
    refine m_statement (d := d) (by rw [o1.2.2]; exact hGm) (mDs_x D o1' ⟨_, l1⟩) l1.2.2.2.2.1 (rch_v _ _ _ h1) (by omega) h4 (fun q' R' h => by rw [h5] at h; cases h) (fun k' p' h m2 o2 x2 => ?_)
    rw [h5] at h
    obtain ⟨rfl, rfl⟩ := Prod.mk.inj (Sum.inr.inj h)
    exact fin m2 (offM_tr (offM_tr o (wLx_D o1')) o2) x2
  · refine m_chain hB hG hl hw hD 59 p R h1 (by omega) (fun m o D => ?_)
    have hGm : mm_G m.2.2 := by rw [o.2.2]; exact hG
    have hn : T.2 ≤ 1600 := by obtain ⟨p, h⟩ := D.1; exact h.1.2.1
    have hq := mLx_q D.1
    have hbad : m.1 164 5 = 0 := by obtain ⟨p, h⟩ := D.1; exact h.2.1
    refine lX12_duchy_100 hGm (ipos hbad (m_lookP hGm D.1 (fun m1 o1 l1 => ineg (fun z => h2 ((look_end hB).mp z)) ?_)))
    have o1' : offM wLx m m1 := offM_mono o1 (fun c j z => by unfold wLx; omega)
    have hG1 : mm_G m1.2.2 := by rw [o1.2.2]; exact hGm
    refine rX12_statementTold hG1 ?_
    rw [o1.1 164 47 (by omega), D.2.2.2, l1.2.2.2.2.1]
    exact ipos rfl (m_failP (k := 5) (p := p) hG1 l1.2.1 (by omega) (by omega) (fun m2 o2 x2 => fin m2 (offM_tr (offM_tr o (wLx_D o1')) (wLx_D o2)) x2))
end
