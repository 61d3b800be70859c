/-! ===== the reference reads a test: how it goes on ===== -/
section
variable {T : dT} {tk q o d : Nat} {C S : List Nat} {M : mm_M} {K : mm_M → Prop}
theorem m_tG (hG : mm_G M.2.2) (h : mQs T tk q C S [] o M) (hb : C.length + S.length ≤ q) (hc : cnt S ≤ o) (h10 : ∀ v ∈ S, 10 ≤ v) (next : ∀ m', offM wQs M m' → tRl T tk (tsG T q C S o) m' → mTm d K (tsG T q C S o).1 m') : FTo d K M := by
  have hbad : M.1 164 5 = 0 := by obtain ⟨p, h⟩ := h.1; exact h.2.1
  have hn : T.2 ≤ 1600 := by obtain ⟨p, h⟩ := h.1; exact h.1.2.1
  have hq := mLx_q h.1
  have hnx := nxt_b hq
  have G : ∀ m, offM wQs M m → mm_G m.2.2 := fun m o' => by rw [o'.2.2]; exact hG
  have bd : ∀ {m : mm_M} {q' : Nat} {C' S' : List Nat} {o' : Nat}, mQs T tk q' C' S' [] o' m → m.1 164 5 = 0 := fun {m q' C' S' o'} s => by obtain ⟨p, s⟩ := s.1; exact s.2.1
  have dwm : ∀ (P : Nat → Bool), ∀ v ∈ S.dropWhile P, 10 ≤ v := fun P v hv => h10 v ((List.dropWhile_sublist _).subset hv)
  have cdw : ∀ (P : Nat → Bool), cnt (S.dropWhile P) ≤ cnt S := fun P => by
    have := cnt_dw (P := P) S []
    rw [List.append_nil, List.append_nil] at this
    exact this
  have k1 : ∀ (v q' : Nat) (C' S' : List Nat), tsG T q C S o = (4, q', C', v :: S', o) → (v = 10 ∨ v = 11) → C'.length + S'.length = C.length + S.length → q + 1 ≤ q' → cnt S' ≤ o → (∀ x ∈ S', 10 ≤ x) → ∀ m', offM wQs M m' → mQs T tk q' C' (v :: S') [] o m' → KTg d K 1 m' := fun v q' C' S' em hv hl hq' hcs h10' m' o' s' => by
    have nx := next m' o'
    rw [em] at nx
    show (if (1 : Int32) = 0 then _ else _)
    refine ineg (by decide) (nx ⟨s', by show C'.length + (S'.length + 1) ≤ q'; omega, ?_, fun x hx => ?_⟩)
    · show cnt (v :: S') ≤ o
      rw [cnt_c, show isOp v = false from decide_eq_false (by omega)]
      show 0 + _ ≤ o
      omega
    · rcases List.mem_cons.mp hx with rfl | hx
      · omega
      · exact h10' x hx
  have l76 : ¬ (isS T q 93 = true ∧ 25 ∈ S) → ∀ m1, offM wQs M m1 → mQs T tk q C S [] o m1 → jX12_qGoesOnTest_76 (d + 11) m1 (KTg d K) := fun n93 m1 o1 s1 => by
    refine lX12_qGoesOnTest_76 (G m1 o1) (m_takesQ (i := 7) (d := d + 9) (by omega) (G m1 o1) s1 (fun w19 m2 o2 s2 => ineg (by decide) ?_) (fun w19 m2 o2 s2 l2 => ipos rfl (m_takesQ (i := 8) (d := d + 9) (by omega) (G m2 (offM_tr o1 (wLx_Q o2))) s2 (fun w18 m3 o3 s3 => ineg (by decide) ?_) (fun w18 m3 o3 s3 l3 => ipos rfl ?_))))
    · have w19 : wdn T q = 19 := w19
      have l0 := hnx.2.2 (wd_lt (by rw [w19]; decide))
      have em : tsG T q C S o = (4, nxt T q, C ++ S.takeWhile is10, 10 :: S.dropWhile is10, o) := by unfold tsG; rw [if_neg n93, if_pos w19]
      have o2' := offM_tr o1 (wLx_Q o2)
      refine m_87 S C m2 (G m2 o2') s2 (by omega) (fun m3 o3 s3 => k1 10 _ _ _ em (Or.inl rfl) ?_ l0 (Nat.le_trans (cdw is10) hc) (dwm is10) m3 (offM_tr o2' o3) s3)
      have := len_tw (P := is10) S
      rw [List.length_append]; omega
    · have w19 : ¬ wdn T q = 19 := w19
      have w18 : wdn T q = 18 := w18
      have l0 := hnx.2.2 (wd_lt (by rw [w18]; decide))
      have em : tsG T q C S o = (4, nxt T q, C ++ S.takeWhile is11, 11 :: S.dropWhile is11, o) := by unfold tsG; rw [if_neg n93, if_neg w19, if_pos w18]
      have o3' := offM_tr (offM_tr o1 (wLx_Q o2)) (wLx_Q o3)
      refine m_137 S C m3 (G m3 o3') s3 (by omega) (fun m4 o4 s4 => k1 11 _ _ _ em (Or.inr rfl) ?_ l0 (Nat.le_trans (cdw is11) hc) (dwm is11) m4 (offM_tr o3' o4) s4)
      have := len_tw (P := is11) S
      rw [List.length_append]; omega
    · have w19 : ¬ wdn T q = 19 := w19
      have w18 : ¬ wdn T q = 18 := w18
      have o3' := offM_tr (offM_tr o1 (wLx_Q o2)) (wLx_Q o3)
      have em : tsG T q C S o = if 25 ∈ S then xC 1 q else (7, q, C ++ S, [], o) := by unfold tsG; rw [if_neg n93, if_neg w19, if_neg w18]
      refine ipos (bd s3) (m_hasSq (G m3 o3') s3 (by omega) (fun z => ineg (by decide) ?_) (fun z => ipos rfl ?_))
      · rw [if_pos z] at em
        rw [l3.2.2.2.2.1]
        refine m_failP (k := 1) (p := q) (G m3 o3') (bd s3) (by omega) (by omega) (fun m4 o4 x4 => ?_)
        have o4' := offM_tr o3' (wLx_Q o4)
        have nx := next m4 o4'
        rw [em] at nx
        show (if (0 : Int32) = 0 then _ else _)
        exact ipos rfl (xTt (G m4 o4') x4 (nx x4))
      · rw [if_neg z] at em
        show (if (0 : Int32) = 0 then _ else _)
        refine ipos rfl (lX12_qTest_2 (G m3 o3') (ipos rfl (m_110 S C m3 (G m3 o3') s3 (by omega) (fun m4 o4 s4 => ?_))))
        have nx := next m4 (offM_tr o3' o4)
        rw [em] at nx
        exact nx ⟨s4, by show (C ++ S).length + 0 ≤ q; rw [List.length_append]; omega, by show (0 : Nat) ≤ o; omega, fun x hx => by cases hx⟩
  have key : (if (M.1 164 5) = 0 then (mm_CI mX12_look (d + 11) [.ref 164] M (fun z8 m8 => if z8 = 93 then (mm_CI mX12_qHasSquare (d + 11) [.ref 164] m8 (fun z17 m17 => if z17 = 0 then (jX12_qGoesOnTest_76 (d + 11) m17 (KTg d K)) else (jX12_qGoesOnTest_33 (d + 11) (mm_uI m17 164 2 ((m17.1 164 2) + 1)) (KTg d K)))) else (jX12_qGoesOnTest_76 (d + 11) m8 (KTg d K)))) else (jX12_qGoesOnTest_76 (d + 11) M (KTg d K))) := by
    refine ipos hbad (m_lookP hG h.1 (fun m1 o1 l1 => ?_))
    have o1' : offM wLx M m1 := offM_mono o1 (fun c j z => by unfold wLx; omega)
    have s1 := mQs_lx h o1' ⟨_, l1⟩
    have o1q := wLx_Q o1'
    refine ite_go (fun z => ?_) (fun z => l76 (fun w => z ((look_S (by decide) (by decide)).mpr w.1)) m1 o1q s1)
    have h93 := (look_S (T := T) (q := q) (c := 93) (by decide) (by decide)).mp z
    refine m_hasSq (G m1 o1q) s1 (by omega) (fun z25 => ineg (by decide) ?_) (fun z25 => ipos rfl (l76 (fun w => z25 w.2) m1 o1q s1))
    have l0 := hnx.2.2 (isS_lt h93).1
    have em : tsG T q C S o = (5, nxt T q, C ++ S.takeWhile is25, (S.dropWhile is25).tail, o - 1) := by unfold tsG; rw [if_pos ⟨h93, z25⟩]
    have o2 : offM wQs M (mm_uI m1 164 2 ((m1.1 164 2) + 1)) := offM_tr o1q (offM_uI (by unfold wQs wLx; omega))
    -- what stands behind the square
    have hsq : ∃ S', S.dropWhile is25 = 25 :: S' := by
      have : ∀ F : List Nat, 25 ∈ F → ∃ S', F.dropWhile is25 = 25 :: S' := by
        intro F
        induction F with
        | nil => intro z; cases z
        | cons x F ih =>
          intro z
          by_cases c : x = 25
          · exact ⟨F, by rw [List.dropWhile_cons_of_neg (by unfold is25; rw [decide_eq_false (fun y => y c)]; decide), c]⟩
          · obtain ⟨S', hS'⟩ := ih (by
              rcases List.mem_cons.mp z with y | y
              · exact absurd y.symm c
              · exact y)
            exact ⟨S', by rw [List.dropWhile_cons_of_pos (by unfold is25; exact decide_eq_true c)]; exact hS'⟩
      exact this S z25
    obtain ⟨S', hS'⟩ := hsq
    have hcs := cdw is25
    rw [hS', cnt_c, show isOp 25 = true from rfl, if_pos rfl] at hcs
    have hln := len_tw (P := is25) S
    rw [hS'] at hln em
    have hln : (S.takeWhile is25).length + (S'.length + 1) = S.length := hln
    have em : tsG T q C S o = (5, nxt T q, C ++ S.takeWhile is25, S', o - 1) := em
    refine m_33 (T := T) (tk := tk) (q := nxt T q) (o := o) (d := d) S C _ z25 (G _ o2) (mQs_adv s1 l1 h93 (by decide)) (by omega) (fun m3 o3 s3 => ?_) (by omega)
    rw [hS'] at s3
    have s3 : mQs T tk (nxt T q) (C ++ S.takeWhile is25) S' [] (o - 1) m3 := s3
    have nx := next m3 (offM_tr o2 o3)
    rw [em] at nx
    refine (nx ⟨s3, ?_, by show cnt S' ≤ o - 1; omega, fun x hx => dwm is25 x (by rw [hS']; exact List.mem_cons_of_mem _ hx)⟩ (d + 9) (fun m70 => jX12_qGoesOnTest_0 (d + 11) m70 (KTg d K)) (fun m' _ _ f => f.1)).2
    show (C ++ S.takeWhile is25).length + S'.length ≤ nxt T q
    rw [List.length_append]; omega
  exact ⟨lX12_qGoesOnTest_0 hG key, rX12_qGoesOnTest hG key⟩
theorem m_followT : ∀ (n : Nat) (c c' : sC) (m : mm_M), tsn T tk n c c' → (c'.1 = 7 ∨ c'.1 = 9) → mm_G m.2.2 → tRl T tk c m → (∀ m', offM wQs m m' → tRl T tk c' m' → K m') → mTm d K c.1 m := by
  intro n
  induction n with
  | zero =>
    intro c c' m hi hc' hG hr hK
    have hi : c = c' := hi
    subst hi
    have := hK m offM_rf hr
    unfold mTm
    rcases hc' with z | z
    · rw [z, if_neg (by decide), if_neg (by decide), if_neg (by decide)]; exact this
    · rw [z, if_neg (by decide), if_neg (by decide), if_neg (by decide)]; exact this
  | succ n ih =>
    intro c c' m hi hc' hG hr hK
    obtain ⟨c1, h1, h2⟩ := hi
    have nx : ∀ m', offM wQs m m' → tRl T tk c1 m' → mTm d K c1.1 m' := fun m' o' r' => ih c1 c' m' h2 hc' (by rw [o'.2.2]; exact hG) r' (fun m2 o2 r2 => hK m2 (offM_tr o' o2) r2)
    obtain ⟨ctl, q, C, S, o⟩ := c
    unfold tst1 at h1
    by_cases c4 : ctl = 4
    · subst c4
      rw [if_pos rfl] at h1
      obtain ⟨a1, a2, a3, a4⟩ := (show mQs T tk q C S [] o m ∧ C.length + S.length ≤ q ∧ cnt S ≤ o ∧ ∀ v ∈ S, 10 ≤ v from hr)
      exact m_tA hG a1 a2 a3 a4 h1 nx
    rw [if_neg c4] at h1
    by_cases c5 : ctl = 5
    · subst c5
      rw [if_pos rfl] at h1
      obtain ⟨a1, a2, a3, a4⟩ := (show mQs T tk q C S [] o m ∧ C.length + S.length ≤ q ∧ cnt S ≤ o ∧ ∀ v ∈ S, 10 ≤ v from hr)
      have h1 : c1 = tsE q C S o := h1
      subst h1
      exact m_tE hG a1 a2 a3 a4 nx
    rw [if_neg c5] at h1
    by_cases c6 : ctl = 6
    · subst c6
      rw [if_pos rfl] at h1
      obtain ⟨a1, a2, a3, a4⟩ := (show mQs T tk q C S [] o m ∧ C.length + S.length ≤ q ∧ cnt S ≤ o ∧ ∀ v ∈ S, 10 ≤ v from hr)
      have h1 : c1 = tsG T q C S o := h1
      subst h1
      exact m_tG hG a1 a2 a3 a4 nx
    rw [if_neg c6] at h1
    exact h1.elim
theorem m_qTestP {c' : sC} (hG : mm_G M.2.2) (h : mQs T tk q [] [] [] 0 M) (hst : tss T tk (4, q, [], [], 0) c') (hk : (∀ k p, c' = xC k p → ∀ m, offM wQs M m → mXs k p m → K m) ∧ (∀ q' C' o', c' = (7, q', C', [], o') → ∀ m, offM wQs M m → mQs T tk q' C' [] [] o' m → C'.length ≤ q' → K m)) (hc' : (∃ k p, c' = xC k p) ∨ ∃ q' C' o', c' = (7, q', C', [], o')) : mm_CV mX12_qTest (d + 13) [.ref 164] M K := by
  obtain ⟨n, hn⟩ := hst
  refine rX12_qTest hG (m_followT (T := T) (tk := tk) (d := d) n (4, q, [], [], 0) c' M hn ?_ hG ⟨h, Nat.zero_le _, Nat.le_refl _, fun v hv => by cases hv⟩ (fun m' o' r' => ?_))
  · rcases hc' with ⟨k, p, rfl⟩ | ⟨q', C', o', rfl⟩
    · exact Or.inr rfl
    · exact Or.inl rfl
  · rcases hc' with ⟨k, p, rfl⟩ | ⟨q', C', o'', rfl⟩
    · exact hk.1 k p rfl m' o' r'
    · obtain ⟨r1, r2, r3⟩ := (show mQs T tk q' C' [] [] o'' m' ∧ C'.length + 0 ≤ q' ∧ _ from r')
      exact hk.2 q' C' o'' rfl m' o' r1 (by omega)
end
