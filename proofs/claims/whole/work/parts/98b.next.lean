/-! ===== the class's reader: the next token ===== -/
def wNx (a c j : Nat) : Prop := c = a ∧ 2 ≤ j ∧ j ≤ 7
theorem Rd_ne {a : Nat} (ha : a ∈ mm_Rds) : a = 5 ∨ a = 17 := by
  unfold mm_Rds at ha
  simpa using ha
theorem cTx_off {W : Nat → Nat → Prop} {T : dT} {a : Nat} {M m : mm_M} (h : cTx T a M) (o : offM W M m) (hW : ∀ c j, W c j → ¬ (c = 1 ∨ (c = a ∧ j = 1))) : cTx T a m :=
  ⟨by rw [o.1 _ _ (fun z => hW _ _ z (Or.inr ⟨rfl, rfl⟩))]; exact h.1, h.2.1, by rw [o.2.2]; exact h.2.2.1, fun j hj => by rw [o.1 _ _ (fun z => hW _ _ z (Or.inl rfl))]; exact h.2.2.2 j hj⟩
theorem dg_lt {c : Int32} (h : isDg c = true) : isLt c = false := by
  unfold isDg at h
  have h := of_decide_eq_true h
  unfold isLt
  exact decide_eq_false (by omega)
theorem bl_no {c : Int32} (h : isBl c = true) : isLt c = false ∧ isDg c = false := by
  unfold isBl at h
  have h := of_decide_eq_true h
  unfold isLt isDg
  exact ⟨decide_eq_false (by omega), decide_eq_false (by omega)⟩
theorem knd_3 {c : Int32} : knd c = 3 ↔ isLt c = false ∧ isDg c = false := by
  rcases knd_c c with ⟨h, h1⟩ | ⟨h, h1, h2⟩ | ⟨h, h1, h2⟩
  · rw [h, h1]; exact ⟨fun z => absurd z (by decide), fun z => absurd z.1 (by decide)⟩
  · rw [h, h1, h2]; decide
  · rw [h, h1, h2]; decide
theorem knd_1 {c : Int32} : knd c = 1 ↔ isLt c = true := by
  rcases knd_c c with ⟨h, h1⟩ | ⟨h, h1, h2⟩ | ⟨h, h1, h2⟩
  · rw [h, h1]; decide
  · rw [h, h2]; decide
  · rw [h, h1]; decide
theorem knd_2 {c : Int32} : knd c = 2 ↔ isDg c = true := by
  rcases knd_c c with ⟨h, h1⟩ | ⟨h, h1, h2⟩ | ⟨h, h1, h2⟩
  · rw [h]
    constructor
    · intro z; exact absurd z (by decide)
    · intro z; rw [dg_lt z] at h1; exact absurd h1 (by decide)
  · rw [h, h1]; decide
  · rw [h, h2]; decide
theorem c_next {d a p : Nat} {T : dT} {M : mm_M} {K : mm_M → Prop} (ha : a ∈ mm_Rds) (hG : mm_G M.2.2) (hT : cTx T a M) (hp : p ≤ T.2) (h2 : M.1 a 2 = nI p) (hK : ∀ m, offM (wNx a) M m → cTk T a (rn T isBl p) m → K m) : mm_CV mX6_next (d + 5) [.ref a] M K := by
  have hn := hT.2.1
  have ha1 : a ≠ 1 := by have := Rd_ne ha; omega
  obtain ⟨r1, r2, r3, r4⟩ := rn_p (T := T) (P := isBl) hp
  refine rX6_next ha hG (rX6_skipBlanks ha hG ?_)
  rw [h2]
  refine c_skipBlanks ha ha1 hn (T.2 - p) p (by omega) M hG hT h2 offM_rf (fun m6 o6 h6 => ?_)
  generalize rn T isBl p = q at r1 r2 r3 r4 h6 hK
  have o7 : offM (wNx a) M (mm_uI (mm_uI m6 a 4 (m6.1 a 2)) a 5 (-1)) := offM_tr (offM_tr (offM_mono o6 (fun c j z => by unfold wNx; omega)) (offM_uI (by unfold wNx; omega))) (offM_uI (by unfold wNx; omega))
  have g2 : (mm_uI (mm_uI m6 a 4 (m6.1 a 2)) a 5 (-1)).1 a 2 = nI q := by rw [uI_j (by decide), uI_j (by decide)]; exact h6
  have g4 : (mm_uI (mm_uI m6 a 4 (m6.1 a 2)) a 5 (-1)).1 a 4 = nI q := by rw [uI_j (by decide), uI_at]; exact h6
  have g5 : (mm_uI (mm_uI m6 a 4 (m6.1 a 2)) a 5 (-1)).1 a 5 = -1 := uI_at _ _ _ _
  generalize mm_uI (mm_uI m6 a 4 (m6.1 a 2)) a 5 (-1) = m7 at o7 g2 g4 g5 ⊢
  have ok : ∀ m, offM (wNx a) M m → mm_G m.2.2 ∧ cTx T a m := fun m o => ⟨by rw [o.2.2]; exact hG, cTx_off hT o (fun c j z => by unfold wNx at z; omega)⟩
  obtain ⟨hG7, hT7⟩ := ok m7 o7
  rw [g2, hT7.1]
  refine ineg (nI_pos (by omega)) ?_
  by_cases hqn : q < T.2
  · refine ipos (nI_lt hqn (by omega)) ?_
    -- behind the run
    have fin : ∀ m, offM (wNx a) M m → m.1 a 4 = nI q → m.1 a 5 = -1 → m.1 a 6 = T.1 q → m.1 a 3 = tkk T q → m.1 a 2 = nI (ten T q) → jX6_next_177 (d + 4) a m K := fun m o e4 e5 e6 e3 e2 => by
      obtain ⟨hGm, hTm⟩ := ok m o
      refine lX6_next_177 ha hGm ?_
      rw [e3]
      rcases tkk_c T q with ⟨a1, a2, a3⟩ | ⟨a1, a2, a3, a4, a5⟩ | ⟨a1, a2, a3, a4, a5⟩ | ⟨a1, a2, a3, a4⟩
      · omega
      · rw [a5] at e2
        refine ipos a1 (c_wordNumber ha hGm hTm hqn a4 e4 e2 (hK _ (offM_tr o (offM_uI (by unfold wNx; omega))) ⟨by rw [uI_j (by decide)]; exact e4, by rw [uI_j (by decide)]; exact e3, ?_, by rw [uI_j (by decide), a5]; exact e2, fun _ => by rw [uI_j (by decide)]; exact e6, fun z => by rw [a1] at z; exact absurd z (by decide)⟩))
        rw [uI_at]; unfold wdn; rw [if_pos a1]
      · rw [a5] at e2
        refine ineg (by rw [a1]; decide) (ipos a1 (c_firstDigits ha hGm hTm (by omega) e4 e2 (hK _ (offM_tr o (offM_uI (by unfold wNx; omega))) ⟨by rw [uI_j (by decide)]; exact e4, by rw [uI_j (by decide)]; exact e3, ?_, by rw [uI_j (by decide), a5]; exact e2, fun _ => by rw [uI_j (by decide)]; exact e6, fun _ => uI_at _ _ _ _⟩)))
        rw [uI_j (by decide), e5]; unfold wdn; rw [if_neg (by rw [a1]; decide)]
      · refine ineg (by rw [a1]; decide) (ineg (by rw [a1]; decide) (hK m o ⟨e4, e3, ?_, e2, fun _ => e6, fun z => by rw [a1] at z; exact absurd z (by decide)⟩))
        rw [e5]; unfold wdn; rw [if_neg (by rw [a1]; decide)]
    -- along the run
    have run : ∀ (P : Int32 → Bool), (∀ c, knd c = tkk T q ↔ P c = true) → tkk T q ≠ 3 → ∀ (k i : Nat) (m : mm_M), i + k = T.2 → offM (wNx a) M m → m.1 a 4 = nI q → m.1 a 5 = -1 → m.1 a 6 = T.1 q → m.1 a 3 = tkk T q → m.1 a 2 = nI i → rn T P i = ten T q → jX6_next_132 (d + 4) a m K (nI i) := by
      intro P hP h3 k
      induction k with
      | zero =>
        intro i m hi o e4 e5 e6 e3 e2 hr
        obtain ⟨hGm, hTm⟩ := ok m o
        rw [rn_end (by omega)] at hr
        refine lX6_next_132 ha hGm ?_
        rw [e3, hTm.1]
        exact ineg h3 (ipos (nI_le (by omega) (by omega)) (fin m o e4 e5 e6 e3 (by rw [← hr]; exact e2)))
      | succ k ih =>
        intro i m hi o e4 e5 e6 e3 e2 hr
        obtain ⟨hGm, hTm⟩ := ok m o
        rw [rn_lt (by omega)] at hr
        refine lX6_next_132 ha hGm ?_
        rw [e3, hTm.1]
        refine ineg h3 (ineg (nI_ge (by omega) (by omega)) ⟨hTm.2.2.1, vp_in_nI (by omega) (by decide), ?_⟩)
        rw [nI_clamp (by omega), hTm.2.2.2 i (by omega)]
        refine c_kindOf hGm ?_
        rw [e3, nI_1]
        refine ite_go (fun c => ?_) (fun c => ?_)
        · rw [if_pos ((hP _).mp c)] at hr
          exact ih (i + 1) _ (by omega) (offM_tr o (offM_uI (by unfold wNx; omega))) (by rw [uI_j (by decide)]; exact e4) (by rw [uI_j (by decide)]; exact e5) (by rw [uI_j (by decide)]; exact e6) (by rw [uI_j (by decide)]; exact e3) (uI_at _ _ _ _) hr
        · rw [if_neg (mt (hP _).mpr c)] at hr
          exact fin m o e4 e5 e6 e3 (by rw [← hr]; exact e2)
    have start : ∀ m, offM (wNx a) M m → m.1 a 4 = nI q → m.1 a 5 = -1 → m.1 a 6 = T.1 q → m.1 a 3 = tkk T q → m.1 a 2 = nI (q + 1) → jX6_next_132 (d + 4) a m K (nI (q + 1)) := fun m o e4 e5 e6 e3 e2 => by
      rcases tkk_c T q with ⟨a1, a2, a3⟩ | ⟨a1, a2, a3, a4, a5⟩ | ⟨a1, a2, a3, a4, a5⟩ | ⟨a1, a2, a3, a4⟩
      · omega
      · refine run isLt (fun c => by rw [a1]; exact knd_1) (by rw [a1]; decide) (T.2 - (q + 1)) (q + 1) m (by omega) o e4 e5 e6 e3 e2 ?_
        rw [a5, rn_lt (p := q) hqn, if_pos a4]
      · refine run isDg (fun c => by rw [a1]; exact knd_2) (by rw [a1]; decide) (T.2 - (q + 1)) (q + 1) m (by omega) o e4 e5 e6 e3 e2 ?_
        rw [a5, rn_lt (p := q) hqn, if_pos a4]
      · exact lX6_next_132 ha (ok m o).1 (ipos (by rw [e3, a1]) (fin m o e4 e5 e6 e3 (by rw [a4]; exact e2)))
    have one : ∀ u0 : Int32, (u0 = 0 ∧ glu T q = false) ∨ (u0 = 1 ∧ glu T q = true) → jX6_next_84 (d + 4) a m7 K u0 := fun u0 hu => by
      refine lX6_next_84 ha hG7 ⟨hT7.2.2.1, by rw [g2]; exact vp_in_nI (by omega) (by decide), ?_⟩
      rw [g2, nI_clamp (by omega), hT7.2.2.2 q hqn]
      have o8 : offM (wNx a) M (mm_uI m7 a 6 (T.1 q)) := offM_tr o7 (offM_uI (by unfold wNx; omega))
      rcases hu with ⟨rfl, hg⟩ | ⟨rfl, hg⟩
      · refine ipos rfl ?_
        rw [uI_at]
        refine c_kindOf (ok _ o8).1 ?_
        have ek : knd (T.1 q) = tkk T q := by unfold tkk; rw [if_neg (by omega), if_neg (by rw [hg]; decide)]
        rw [ek, uI_at, uI_j (by decide), uI_j (by decide), g2, nI_1]
        exact start _ (offM_tr (offM_tr o8 (offM_uI (by unfold wNx; omega))) (offM_uI (by unfold wNx; omega))) (by rw [uI_j (by decide), uI_j (by decide), uI_j (by decide)]; exact g4) (by rw [uI_j (by decide), uI_j (by decide), uI_j (by decide)]; exact g5) (by rw [uI_j (by decide), uI_j (by decide), uI_at]) (by rw [uI_j (by decide), uI_at]) (uI_at _ _ _ _)
      · refine ineg (by decide) ?_
        have ek : (3 : Int32) = tkk T q := by unfold tkk; rw [if_neg (by omega), if_pos hg]
        rw [ek, uI_at, uI_j (by decide), uI_j (by decide), g2, nI_1]
        exact start _ (offM_tr (offM_tr o8 (offM_uI (by unfold wNx; omega))) (offM_uI (by unfold wNx; omega))) (by rw [uI_j (by decide), uI_j (by decide), uI_j (by decide)]; exact g4) (by rw [uI_j (by decide), uI_j (by decide), uI_j (by decide)]; exact g5) (by rw [uI_j (by decide), uI_j (by decide), uI_at]) (by rw [uI_j (by decide), uI_at]) (uI_at _ _ _ _)
    by_cases hqp : q = p
    · refine ipos (by rw [hqp]) ?_
      by_cases h0 : q = 0
      · refine ipos (by rw [h0]; decide) (one 0 (Or.inl ⟨rfl, ?_⟩))
        unfold glu; rw [h0]; rfl
      · refine ineg (nI_ge (b := q) (a := 0) (by omega) (by omega)) ⟨hT7.2.2.1, ?_, ?_⟩
        · rw [show nI q - 1 = nI (q - 1) from pk_sub (a := q) (b := 1) (by omega)]
          exact vp_in_nI (by omega) (by decide)
        rw [show nI q - 1 = nI (q - 1) from pk_sub (a := q) (b := 1) (by omega), nI_clamp (by omega), hT7.2.2.2 (q - 1) (by omega)]
        refine c_kindOf hG7 (ite_go (fun c => one 0 (Or.inl ⟨rfl, ?_⟩)) (fun c => one 1 (Or.inr ⟨rfl, ?_⟩)))
        · have := knd_3.mp c
          unfold glu; rw [this.1, this.2, Bool.or_self, Bool.and_false]
        · unfold glu
          rw [decide_eq_true (by omega : 0 < q), Bool.true_and]
          cases h1 : isLt (T.1 (q - 1)) with
          | true => rfl
          | false =>
            cases h2 : isDg (T.1 (q - 1)) with
            | true => rfl
            | false => exact absurd (knd_3.mpr ⟨h1, h2⟩) c
    · refine ineg (fun z => hqp ((nI_eq (by omega) (by omega)).mp z)) (one 0 (Or.inl ⟨rfl, ?_⟩))
      have := bl_no (r4 (q - 1) (by omega) (by omega))
      unfold glu; rw [this.1, this.2, Bool.or_self, Bool.and_false]
  · have e0 : tkk T q = 0 := by unfold tkk; rw [if_pos (by omega)]
    refine ineg (nI_nlt (by omega) (by omega)) (hK _ (offM_tr o7 (offM_uI (by unfold wNx; omega))) ⟨by rw [uI_j (by decide)]; exact g4, by rw [uI_at, e0], ?_, ?_, fun z => absurd e0 z, fun z => by rw [e0] at z; exact absurd z (by decide)⟩)
    · rw [uI_j (by decide), g5]; unfold wdn; rw [if_neg (by rw [e0]; decide)]
    · rw [uI_j (by decide), g2]; unfold ten; rw [if_pos e0]
