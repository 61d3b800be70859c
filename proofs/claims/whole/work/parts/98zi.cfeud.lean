/-! ===== the class reads a feud ===== -/
def badK (A : Option Nat) (R : dR) (b : Nat) : Prop := match A with
  | none => False
  | some a => b = a ∨ 0 < R.2.2.2.2.2.2.1 a b
def knX (T : dT) (q : Nat) (R : dR) (A : Option Nat) (k p : Nat) : Prop := nmX T q = some (k, p) ∨ (nmX T q = none ∧ fndN R (nmOf T q) = none ∧ k = 3 ∧ p = q) ∨ (nmX T q = none ∧ ∃ b, fndN R (nmOf T q) = some b ∧ badK A R b ∧ k = 3 ∧ p = q)
theorem c_known {T : dT} {r q tk d : Nat} {P Q : List Nat} {R : dR} {A : Option Nat} {x1 : Int32} {M : mm_M} {K : Int32 → mm_M → Prop} (hr : r ∈ mm_Rls) (hG : mm_G M.2.2) (s : cPs T tk 5 (r + 5) 0 q P 0 M) (hD : cDr r R Q M) (h4 : M.2.2 4 1 = some r) (hq : q ≤ T.2) (h7 : R.2.2.1 ≤ 7) (hx : x1 = match A with | none => -1 | some a => nI a) (hA : ∀ a, A = some a → a < R.2.2.1)
    (h1 : ∀ b, nmX T q = none → fndN R (nmOf T q) = some b → ¬ badK A R b → ∀ m, offM (wPr 5 (r + 5)) M m → cPs T tk 5 (r + 5) 0 (nxt T q) P 0 m → K (nI b) m)
    (h2 : ∀ k p, knX T q R A k p → ∀ m, offM (wPr 5 (r + 5)) M m → cXs 5 (r + 5) k p m → K (-1) m) : mm_CI mX2_readKnownName (d + 6) [.ref 4, .int x1] M K := by
  have hn : T.2 ≤ 1600 := s.1.2.1
  have h0 := cX0_5 hr
  refine rX2_readKnownName hG (ipos s.2.2.1 (c_isAtName (d := d + 4) h0 hG s hq (fun hnm => ineg (by decide) ⟨r, h4, hr, s.1.2.2.1, ?_⟩) (fun k p hnm m o x => ipos rfl (h2 k p (Or.inl hnm) m o x))))
  rw [s.2.1.1, s.2.1.2.2.2.1]
  refine c_houseNamed hr hG hn s.1.2.2.2 hq hD.2.2.1 h7 ?_
  have ref : knX T q R A 3 q → mm_CV mX6_refuse (d + 5) [.ref 5, .int 3, .int (M.1 5 4)] M (fun m94 => K (-1) m94) := fun z => by
    rw [s.2.1.1]
    exact c_refuseP (k := 3) (p := q) h0 hG s (by omega) (by omega) (fun m o x => h2 3 q z m o x)
  cases hf : fndN R (nmOf T q) with
  | none => exact ipos rfl (ref (Or.inr (Or.inl ⟨hnm, hf, rfl, rfl⟩)))
  | some b =>
    have hb := fnd_lt hf
    have go : ¬ badK A R b → mm_CV mX6_next (d + 5) [.ref 5] M (fun m103 => K (nI b) m103) := fun z => c_nextP h0 hG s hq (fun m o s' => h1 b hnm hf z m o s')
    have no : badK A R b → mm_CV mX6_refuse (d + 5) [.ref 5, .int 3, .int (M.1 5 4)] M (fun m94 => K (-1) m94) := fun z => ref (Or.inr (Or.inr ⟨hnm, b, hf, z, rfl, rfl⟩))
    refine ineg (nI_nm1 (b := b) (by omega)) ?_
    cases A with
    | none =>
      have hx : x1 = -1 := hx
      rw [hx]
      exact ineg (nI_nm1 (b := b) (by omega)) (ipos (by decide) (go (fun z => z)))
    | some a =>
      have hx : x1 = nI a := hx
      have ha := hA a rfl
      rw [hx]
      refine ite_go (fun c => no (Or.inl ((nI_eq (by omega) (by omega)).mp c))) (fun c => ineg (nI_pos (by omega)) ⟨r, h4, hr, ?_⟩)
      have e8 : 8 * nI a = nI (8 * a) := pk_mul 8 a
      rw [e8, nI_add, nI_clamp (by omega), hD.2.2.2.2.2.1 a b (by omega) (by omega)]
      refine ⟨vp_in_nI (by omega) (by decide), ite_go (fun c2 => go (fun z => ?_)) (fun c2 => no (Or.inr ?_))⟩
      · rcases z with z | z
        · exact c (by rw [z])
        · have := i32_lt.mp z
          have := i32_le.mp c2
          omega
      · have c2 := mt i32_le.mpr c2
        exact i32_lt.mpr (by omega)
theorem c_knownX {r k p d : Nat} {x1 : Int32} {M : mm_M} {K : Int32 → mm_M → Prop} (hG : mm_G M.2.2) (x : cXs 5 (r + 5) k p M) (hK : K (-1) M) : mm_CI mX2_readKnownName (d + 1) [.ref 4, .int x1] M K := rX2_readKnownName hG (ineg (X_n0 x) hK)
set_option maxHeartbeats 2000000 in
theorem c_feud {T : dT} {r i q d : Nat} {R : dR} {M : mm_M} {K : mm_M → Prop} (hr : r ∈ mm_Rls) (hG : mm_G M.2.2) (h : cDs T r i q R M) (v : vR T q R) (hK : stK (fdB T q R) (fun q' R' => ∀ m, offM (wDc r) M m → cDs T r i q' R' m → K m) (fun k p => ∀ m, offM (wDc r) M m → cDx r i k p m → K m)) : mm_CV mX2_readFeud (d + 9) [.ref 4] M K := by
  obtain ⟨⟨tk, P, htk, s, hP, hD⟩, hi, hb, h4, -⟩ := h
  obtain ⟨v1, v2, v3, v4, v5, v6, v7, v8, v9, v10, v11, v12, v13, hq⟩ := id v
  have hr' := Rl_at hr
  have h0 := cX0_5 hr
  have hn : T.2 ≤ 1600 := s.1.2.1
  have n1 := nxt_b hq
  have n2 := nxt_b n1.2.1
  have n3 := nxt_b n2.2.1
  have n4 := nxt_b n3.2.1
  have n5 := nxt_b n4.2.1
  have n6 := nxt_b n5.2.1
  have st : ∀ m, offM (wPr 5 (r + 5)) M m → offM (wDc r) M m ∧ mm_G m.2.2 ∧ m.2.2 4 1 = some r ∧ cDr r R P m ∧ m.1 r 0 = nI i := fun m o => ⟨wPr_D o, by rw [o.2.2]; exact hG, by rw [o.2.2]; exact h4, cDr_off hD o (fun c j z => by unfold wPr at z; omega), by rw [o.1 _ _ (by unfold wPr; omega)]; exact hi⟩
  have endX : ∀ (k p : Nat) (F : Prop) (m : mm_M), offM (wPr 5 (r + 5)) M m → cXs 5 (r + 5) k p m → (∀ m, offM (wDc r) M m → cDx r i k p m → K m) → (if (m.1 5 8) = 0 then F else (K m)) := fun k p F m o x no => ineg (X_n0 x) (no m (st m o).1 ⟨x, (st m o).2.2.2.2, (st m o).2.2.1⟩)
  have nX : ∀ (z9 z23 : Int32) (k p : Nat) (m : mm_M), offM (wPr 5 (r + 5)) M m → cXs 5 (r + 5) k p m → (∀ m, offM (wDc r) M m → cDx r i k p m → K m) → mm_CI mX6_takeNumber (d + 8) [.ref 5, .int 1, .int 99] m (fun z43 m43 => if (m43.1 5 8) = 0 then (if z9 < 0 then (K m43) else (if z23 < 0 then (K m43) else (∃ q66 : Nat, m43.2.2 4 1 = some q66 ∧ q66 ∈ mm_Rls ∧ vp_in ((8 * z9) + z23) 64 ∧ ∃ q81 : Nat, (mm_uI m43 (q66 + 4) ((8 * z9) + z23).toNatClampNeg z43).2.2 4 1 = some q81 ∧ q81 ∈ mm_Rls ∧ vp_in ((8 * z23) + z9) 64 ∧ K (mm_uI (mm_uI m43 (q66 + 4) ((8 * z9) + z23).toNatClampNeg z43) (q81 + 4) ((8 * z23) + z9).toNatClampNeg z43)))) else (K m43)) := fun z9 z23 k p m o x no => c_takeNumX (d := d + 7) h0 (st m o).2.1 x (endX k p _ m o x no)
  refine rX2_readFeud hG (c_nextP (d := d + 3) h0 hG s hq (fun m1 o1 s1 => ?_))
  obtain ⟨p1, p2, p3, p4, p5⟩ := st m1 o1
  unfold fdB at hK
  refine c_known (d := d + 2) (A := none) hr p2 s1 p4 p3 n1.2.1 v3 rfl (fun a z => by cases z) (fun a hnm hf _ m2 o2 s2 => ?_) (fun k p hx m2 o2 x2 => ?_)
  · rw [hnm] at hK
    simp only at hK
    rw [hf] at hK
    have la := fnd_lt hf
    have o2' := offM_tr o1 o2
    refine c_expWord (d := d + 1) h0 (st m2 o2').2.1 s2 n2.2.1 (fun hw m3 o3 s3 => ?_) (fun hw m3 o3 x3 => ?_)
    · have o3' := offM_tr o2' o3
      obtain ⟨e1, e2, e3, e4, e5⟩ := st m3 o3'
      have hK : stK (wordF T 5 (nxt T (nxt T q)) (fdB2 T a (nxt T (nxt T (nxt T q))) R)) (fun q' R' => ∀ m, offM (wDc r) M m → cDs T r i q' R' m → K m) (fun k p => ∀ m, offM (wDc r) M m → cDx r i k p m → K m) := hK
      unfold wordF at hK
      rw [if_pos hw] at hK
      unfold fdB2 at hK
      refine c_known (d := d + 2) (A := some a) hr e2 s3 e4 e3 n3.2.1 v3 rfl (fun a' z => by cases z; exact la) (fun b hnm2 hf2 hbad m4 o4 s4 => ?_) (fun k p hx m4 o4 x4 => ?_)
      · rw [hnm2] at hK
        simp only at hK
        rw [hf2] at hK
        simp only at hK
        have lb := fnd_lt hf2
        rw [if_neg (show ¬ (b = a ∨ 0 < R.2.2.2.2.2.2.1 a b) from hbad)] at hK
        have o4' := offM_tr o3' o4
        refine c_expWord (d := d + 1) h0 (st m4 o4').2.1 s4 n4.2.1 (fun hw2 m5 o5 s5 => ?_) (fun hw2 m5 o5 x5 => ?_)
        · have o5' := offM_tr o4' o5
          unfold wordF at hK
          rw [if_pos hw2] at hK
          refine c_takeNum (lo := 1) (hi := 99) (d := d + 2) h0 (st m5 o5').2.1 s5 n5.2.1 (by omega) (by omega) (fun hu m6 o6 s6 => ?_) (fun k p hu m6 o6 x6 => ?_)
          · have o6' := offM_tr o5' o6
            obtain ⟨g1, g2, g3, g4, g5⟩ := st m6 o6'
            unfold numF at hK
            rw [hu] at hK
            have hK : ∀ m, offM (wDc r) M m → cDs T r i (nxt T (nxt T (nxt T (nxt T (nxt T (nxt T q)))))) (setHt R a b (vlu T (nxt T (nxt T (nxt T (nxt T (nxt T q))))))) m → K m := hK
            have e8 : ∀ a : Nat, 8 * nI a = nI (8 * a) := fun a => pk_mul 8 a
            refine ipos s6.2.2.1 (ineg (nI_pos (by omega)) (ineg (nI_pos (by omega)) ⟨r, g3, hr, ?_⟩))
            rw [e8, nI_add, nI_clamp (by omega)]
            refine ⟨vp_in_nI (by omega) (by decide), r, g3, hr, ?_⟩
            rw [e8, nI_add, nI_clamp (by omega)]
            refine ⟨vp_in_nI (by omega) (by decide), ?_⟩
            have o7 : offM (fun c j => c = r + 4) m6 (mm_uI (mm_uI m6 (r + 4) (8 * a + b) (vlu T (nxt T (nxt T (nxt T (nxt T (nxt T q))))))) (r + 4) (8 * b + a) (vlu T (nxt T (nxt T (nxt T (nxt T (nxt T q))))))) := offM_tr (offM_uI rfl) (offM_uI rfl)
            have f7 : ∀ h k, h < 7 → k < 7 → (mm_uI (mm_uI m6 (r + 4) (8 * a + b) (vlu T (nxt T (nxt T (nxt T (nxt T (nxt T q))))))) (r + 4) (8 * b + a) (vlu T (nxt T (nxt T (nxt T (nxt T (nxt T q))))))).1 (r + 4) (8 * h + k) = if (h = a ∧ k = b) ∨ (h = b ∧ k = a) then (vlu T (nxt T (nxt T (nxt T (nxt T (nxt T q)))))) else R.2.2.2.2.2.2.1 h k := fun h k hh hk => by
              by_cases c1 : h = b ∧ k = a
              · obtain ⟨rfl, rfl⟩ := c1
                rw [uI_at, if_pos (Or.inr ⟨rfl, rfl⟩)]
              · rw [uI_j (by omega)]
                by_cases c2 : h = a ∧ k = b
                · obtain ⟨rfl, rfl⟩ := c2
                  rw [uI_at, if_pos (Or.inl ⟨rfl, rfl⟩)]
                · rw [uI_j (by omega), if_neg (by omega)]; exact g4.2.2.2.2.2.1 h k hh hk
            generalize mm_uI (mm_uI m6 (r + 4) (8 * a + b) (vlu T (nxt T (nxt T (nxt T (nxt T (nxt T q))))))) (r + 4) (8 * b + a) (vlu T (nxt T (nxt T (nxt T (nxt T (nxt T q)))))) = m7 at o7 f7 ⊢
            have o7' : offM (wDc r) M m7 := offM_tr g1 (offM_mono o7 (fun c j z => by unfold wDc; omega))
            refine hK m7 o7' ⟨⟨tk, P, htk, cPs_off s6 o7 (fun c j z => by omega), hP, ?_⟩, by rw [o7.1 _ _ (by omega)]; exact g5, ?_, by rw [o7.2.2]; exact g3, n6.2.1⟩
            · obtain ⟨d1, d2, d3, d4, d5, d6, d7⟩ := g4
              refine ⟨by rw [o7.1 _ _ (by omega)]; exact d1, by rw [o7.1 _ _ (by omega)]; exact d2, ⟨by rw [o7.1 _ _ (by omega)]; exact d3.1, fun h k hh hk => by rw [o7.1 _ _ (by omega)]; exact d3.2 h k hh hk⟩, fun h hh => by rw [o7.1 _ _ (by omega)]; exact d4 h hh, fun h hh => by rw [o7.1 _ _ (by omega)]; exact d5 h hh, f7, fun k hk => ?_⟩
              obtain ⟨f, e, q1, q2, q3, q4, q5⟩ := d7 k hk
              exact ⟨f, e, by rw [o7.1 _ _ (by omega)]; exact q1, by rw [o7.1 _ _ (by omega)]; exact q2, q3, q4, q5⟩
            · obtain ⟨b', b1, b2, b3⟩ := hb
              exact ⟨b', b1, by rw [o7.1 _ _ (by omega), o6'.1 _ _ (by unfold wPr; omega)]; exact b2, b3⟩
          · unfold numF at hK
            rw [hu] at hK
            exact endX k p _ m6 (offM_tr o5' o6) x6 hK
        · unfold wordF at hK
          rw [if_neg hw2] at hK
          exact nX _ _ 1 _ m5 (offM_tr o4' o5) x5 hK
      · have o4' := offM_tr o3' o4
        have no : ∀ m, offM (wDc r) M m → cDx r i k p m → K m := by
          rcases hx with z | ⟨z1, z2, rfl, rfl⟩ | ⟨z1, b, z2, z3, rfl, rfl⟩
          · rw [z] at hK; exact hK
          · rw [z1] at hK
            simp only at hK
            rw [z2] at hK
            exact hK
          · rw [z1] at hK
            simp only at hK
            rw [z2] at hK
            simp only at hK
            rw [if_pos (show (b = a ∨ 0 < R.2.2.2.2.2.2.1 a b) from z3)] at hK
            exact hK
        exact c_expWordX (d := d + 6) h0 (st m4 o4').2.1 x4 (nX _ _ k p m4 o4' x4 no)
    · have o3' := offM_tr o2' o3
      have hK : stK (wordF T 5 (nxt T (nxt T q)) (fdB2 T a (nxt T (nxt T (nxt T q))) R)) (fun q' R' => ∀ m, offM (wDc r) M m → cDs T r i q' R' m → K m) (fun k p => ∀ m, offM (wDc r) M m → cDx r i k p m → K m) := hK
      unfold wordF at hK
      rw [if_neg hw] at hK
      exact c_knownX (d := d + 7) (st m3 o3').2.1 x3 (c_expWordX (d := d + 6) h0 (st m3 o3').2.1 x3 (nX _ _ 1 _ m3 o3' x3 hK))
  · have o2' := offM_tr o1 o2
    have no : ∀ m, offM (wDc r) M m → cDx r i k p m → K m := by
      rcases hx with z | ⟨z1, z2, rfl, rfl⟩ | ⟨z1, b, z2, z3, rfl, rfl⟩
      · rw [z] at hK; exact hK
      · rw [z1] at hK
        simp only at hK
        rw [z2] at hK
        exact hK
      · exact z3.elim
    exact c_expWordX (d := d + 6) h0 (st m2 o2').2.1 x2 (c_knownX (d := d + 7) (st m2 o2').2.1 x2 (c_expWordX (d := d + 6) h0 (st m2 o2').2.1 x2 (nX _ _ k p m2 o2' x2 no)))
