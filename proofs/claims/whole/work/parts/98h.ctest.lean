/-! ===== the machine of tests ===== -/
def cmpc (T : dT) (q : Nat) : Option Nat := if isS T q 60 then some 7 else if isS T q 62 then some 8 else if isS T q 61 then some 9 else none
def tsS (T : dT) (tk q : Nat) (C S : List Nat) (o : Nat) (c' : sC) : Prop :=
  (∃ k p, str T tk (0, q, C, [], o) (xC k p) ∧ c' = xC k p) ∨ ∃ q1 C1, str T tk (0, q, C, [], o) (3, q1, C1, [], o) ∧
    ((cmpc T q1 = none ∧ c' = xC 1 q1) ∨ ∃ cm, cmpc T q1 = some cm ∧ ((∃ k p, str T tk (0, nxt T q1, C1, [], o) (xC k p) ∧ c' = xC k p) ∨ ∃ q2 C2, str T tk (0, nxt T q1, C1, [], o) (3, q2, C2, [], o) ∧ c' = (5, q2, C2 ++ [cm], S, o)))
def tsA (T : dT) (tk q : Nat) (C S : List Nat) (o : Nat) (c' : sC) : Prop :=
  if isS T q 91 then c' = (if o = 6 then xC 4 q else (4, nxt T q, C, 25 :: S, o + 1))
  else if wdn T q = 20 then c' = (if o = 6 then xC 4 q else (4, nxt T q, C, 12 :: S, o + 1))
  else if wdn T q = 21 then c' = (5, nxt T q, C ++ [13], S, o)
  else tsS T tk q C S o c'
def tsE (q : Nat) (C S : List Nat) (o : Nat) : sC := match S with
  | [] => (6, q, C, [], o)
  | v :: S' => if v = 12 then (5, q, C ++ [v], S', o - 1) else (6, q, C, v :: S', o)
def is25 (v : Nat) : Bool := decide (v ≠ 25)
def is10 (v : Nat) : Bool := decide (v = 10)
def is11 (v : Nat) : Bool := decide (v = 10 ∨ v = 11)
def tsG (T : dT) (q : Nat) (C S : List Nat) (o : Nat) : sC :=
  if isS T q 93 = true ∧ 25 ∈ S then (5, nxt T q, C ++ S.takeWhile is25, (S.dropWhile is25).tail, o - 1)
  else if wdn T q = 19 then (4, nxt T q, C ++ S.takeWhile is10, 10 :: S.dropWhile is10, o)
  else if wdn T q = 18 then (4, nxt T q, C ++ S.takeWhile is11, 11 :: S.dropWhile is11, o)
  else if 25 ∈ S then xC 1 q else (7, q, C ++ S, [], o)
def tst1 (T : dT) (tk : Nat) (c c' : sC) : Prop :=
  if c.1 = 4 then tsA T tk c.2.1 c.2.2.1 c.2.2.2.1 c.2.2.2.2 c' else if c.1 = 5 then c' = tsE c.2.1 c.2.2.1 c.2.2.2.1 c.2.2.2.2 else if c.1 = 6 then c' = tsG T c.2.1 c.2.2.1 c.2.2.2.1 c.2.2.2.2 else False
def tsn (T : dT) (tk : Nat) : Nat → sC → sC → Prop
  | 0, c, c' => c = c'
  | n + 1, c, c' => ∃ c1, tst1 T tk c c1 ∧ tsn T tk n c1 c'
def tss (T : dT) (tk : Nat) (c c' : sC) : Prop := ∃ n, tsn T tk n c c'
theorem tsn_add {T : dT} {tk : Nat} : ∀ (n m : Nat) (a b c : sC), tsn T tk n a b → tsn T tk m b c → tsn T tk (n + m) a c
  | 0, m, a, b, c, h, h' => by
    have h : a = b := h
    subst h
    rw [Nat.zero_add]; exact h'
  | n + 1, m, a, b, c, h, h' => by
    obtain ⟨c1, h1, h2⟩ := h
    rw [show n + 1 + m = (n + m) + 1 by omega]
    exact ⟨c1, h1, tsn_add n m c1 b c h2 h'⟩
theorem tss_tr {T : dT} {tk : Nat} {a b c : sC} (h : tss T tk a b) (h' : tss T tk b c) : tss T tk a c := by
  obtain ⟨n, h⟩ := h
  obtain ⟨m, h'⟩ := h'
  exact ⟨n + m, tsn_add n m a b c h h'⟩
theorem tss_1 {T : dT} {tk : Nat} {a b : sC} (h : tst1 T tk a b) : tss T tk a b := ⟨1, b, h, rfl⟩
def tpB (S : List Nat) : Prop := ∀ v, S.head? = some v → v ≠ 12 ∧ v ≠ 10
def tpT (S : List Nat) : Prop := ∀ v, S.head? = some v → v ≠ 12 ∧ v ≠ 10 ∧ v ≠ 11
theorem tpT_B {S : List Nat} (h : tpT S) : tpB S := fun v hv => ⟨(h v hv).1, (h v hv).2.1⟩
theorem tsE_go {T : dT} {tk q o : Nat} {C S : List Nat} (h : ∀ v, S.head? = some v → v ≠ 12) : tst1 T tk (5, q, C, S, o) (6, q, C, S, o) := by
  show (6, q, C, S, o) = tsE q C S o
  cases S with
  | nil => rfl
  | cons v S =>
    have := h v rfl
    unfold tsE
    show _ = (if v = 12 then _ else _)
    rw [if_neg this]
/-! the class -/
def FACT (T : dT) (tk a r s k : Nat) : Prop := ∀ (D q : Nat) (C : List Nat) (o : Nat) (M : mm_M) (K : mm_M → Prop), 40 + 6 * k ≤ D → o + k = 6 → mm_G M.2.2 → cPs T tk a r s q C o M → s + C.length ≤ 6 + q → q ≤ T.2 → pOk T tk a r s q C o M (fun q' cs => evp tk (6 + 5 * k) true cs ∧ ∀ C S, tss T tk (4, q, C, S, o) (5, q', C ++ cs, S, o)) K → pNo a r M (fun k p => ∀ C S, tss T tk (4, q, C, S, o) (xC k p)) K → mm_CV mX6_fact D [.ref a] M K
def BOTH (T : dT) (tk a r s k : Nat) : Prop := ∀ (D q : Nat) (C : List Nat) (o : Nat) (M : mm_M) (K : mm_M → Prop), 41 + 6 * k ≤ D → o + k = 6 → mm_G M.2.2 → cPs T tk a r s q C o M → s + C.length ≤ 6 + q → q ≤ T.2 → pOk T tk a r s q C o M (fun q' cs => evp tk (7 + 5 * k) true cs ∧ wdn T q' ≠ 19 ∧ ∃ c1 ms, cs = c1 ++ ms ∧ (∀ x ∈ ms, is10 x = true) ∧ ∀ C S, tpB S → tss T tk (4, q, C, S, o) (6, q', C ++ c1, ms ++ S, o)) K → pNo a r M (fun k p => ∀ C S, tpB S → tss T tk (4, q, C, S, o) (xC k p)) K → mm_CV mX6_both D [.ref a] M K
def testR (T : dT) (tk q o n q' : Nat) (cs : List Nat) : Prop := evp tk n true cs ∧ wdn T q' ≠ 19 ∧ wdn T q' ≠ 18 ∧ ∃ c1 ms, cs = c1 ++ ms ∧ (∀ x ∈ ms, is11 x = true) ∧ ∀ C S, tpT S → tss T tk (4, q, C, S, o) (6, q', C ++ c1, ms ++ S, o)
def TEST (T : dT) (tk a r s k : Nat) : Prop := ∀ (D q : Nat) (C : List Nat) (o : Nat) (M : mm_M) (K : mm_M → Prop), 42 + 6 * k ≤ D → o + k = 6 → mm_G M.2.2 → cPs T tk a r s q C o M → s + C.length ≤ 6 + q → q ≤ T.2 → pOk T tk a r s q C o M (testR T tk q o (8 + 5 * k)) K → pNo a r M (fun k p => ∀ C S, tpT S → tss T tk (4, q, C, S, o) (xC k p)) K → mm_CV mX6_test D [.ref a] M K
theorem c_takeWord {T : dT} {tk a r s q o d : Nat} {C : List Nat} {M : mm_M} {K : Int32 → mm_M → Prop} {w : Int32} (h0 : cX0 a r) (hG : mm_G M.2.2) (hs : cPs T tk a r s q C o M) (hq : q ≤ T.2) (h1 : wdn T q = w → ∀ m, offM (wPr a r) M m → cPs T tk a r s (nxt T q) C o m → K 1 m) (h2 : wdn T q ≠ w → K 0 M) : mm_CI mX6_takeWord (d + 6) [.ref a, .int w] M K := by
  refine rX6_takeWord h0.1 hG (ipos hs.2.2.1 ?_)
  rw [hs.2.1.2.2.1]
  exact ite_go (fun z => c_nextP h0 hG hs hq (fun m o' s' => h1 z m o' s')) (fun z => h2 z)
theorem c_takeWordX {a r d k p : Nat} {M : mm_M} {K : Int32 → mm_M → Prop} {w : Int32} (h0 : cX0 a r) (hG : mm_G M.2.2) (hs : cXs a r k p M) (hK : K 0 M) : mm_CI mX6_takeWord (d + 1) [.ref a, .int w] M K := rX6_takeWord h0.1 hG (ineg (X_n0 hs) hK)
theorem c_both {T : dT} {tk a r s k : Nat} (h0 : cX0 a r) (hP : FACT T tk a r s k) : BOTH T tk a r s k := by
  intro D q C o M K hD hok hG hs hb hq hK1 hK2
  obtain ⟨d, rfl⟩ : ∃ d, D = d + 7 := ⟨D - 7, by omega⟩
  have hn := hs.1.2.1
  have G : ∀ m, offM (wPr a r) M m → mm_G m.2.2 := fun m o' => by rw [o'.2.2]; exact hG
  have no : ∀ (i : Int32) (m : mm_M) (k p : Nat), offM (wPr a r) M m → cXs a r k p m → (∀ C S, tpB S → tss T tk (4, q, C, S, o) (xC k p)) → jX6_both_6 (d + 6) a m K i := fun i m k p o' x hx => lX6_both_6 h0.1 (G m o') (ite_go (fun _ => hK2 m k p o' x hx) (fun _ => c_takeWordX h0 (G m o') x (ipos rfl (hK2 m k p o' x hx))))
  have loop : ∀ (f i q' : Nat) (c1 ms : List Nat) (m : mm_M), T.2 - q' < f → i + 1 ≤ q' → offM (wPr a r) M m → cPs T tk a r s q' (C ++ (c1 ++ ms)) o m → q < q' → q' ≤ T.2 → (c1 ++ ms).length ≤ q' - q → (∀ x ∈ ms, is10 x = true) → evp tk (7 + 5 * k) true (c1 ++ ms) → (∀ C S, tpB S → tss T tk (4, q, C, S, o) (6, q', C ++ c1, ms ++ S, o)) → jX6_both_6 (d + 6) a m K (nI i) := by
    intro f
    induction f with
    | zero => intro i q' c1 ms m hf; omega
    | succ f ih =>
      intro i q' c1 ms m hf hi o' hs' hlt hle hlen hms hev hst
      have hGm := G m o'
      refine lX6_both_6 h0.1 hGm (ineg (nI_ge (b := 1600) (by omega) (by decide)) (c_takeWord h0 hGm hs' hle (fun hw m2 o2 s2 => ineg (by decide) ?_) (fun hw => ipos rfl (hK1 m q' (c1 ++ ms) o' hs' hlt hle hlen ⟨hev, hw, c1, ms, rfl, hms, hst⟩))))
      have hwn : wdn T q' ≠ -1 := by rw [hw]; decide
      have hlt' := wd_lt hwn
      have hnx := (nxt_b hle).2.2 hlt'
      have hnx2 := (nxt_b hle).2.1
      have o2' := offM_tr o' o2
      have and1 : ∀ C' S, tpB S → tst1 T tk (6, q', C' ++ c1, ms ++ S, o) (4, nxt T q', C' ++ (c1 ++ ms), 10 :: S, o) := fun C' S hS => by
        show _ = tsG T q' (C' ++ c1) (ms ++ S) o
        obtain ⟨w1, w2⟩ := tw_app (P := is10) ms S hms (fun v hv => by have := (hS v hv).2; unfold is10; exact decide_eq_false this)
        unfold tsG
        rw [if_neg (fun z => by rw [wd_S hwn] at z; exact absurd z.1 (by decide)), if_pos hw, w1, w2, List.append_assoc]
      refine hP (d + 6) _ _ o m2 _ (by omega) hok (G m2 o2') s2 (by rw [List.length_append]; omega) hnx2 (fun m3 q'' c2 o3 s3 l1 l2 l3 r3 => ?_) (fun m3 k' p o3 x3 r3 => ?_)
      · have o3' := offM_tr o2' o3
        have hl : (C ++ (c1 ++ ms) ++ c2).length = C.length + (c1 ++ ms).length + c2.length := by rw [List.length_append, List.length_append]
        refine c_emitP (c := 10) h0 (G m3 o3') s3 (by rw [hl]; omega) (by decide) (fun m4 o4 s4 => ?_)
        rw [nI_1]
        have ea : C ++ (c1 ++ ms) ++ c2 ++ [10] = C ++ ((c1 ++ ms ++ c2) ++ [10]) := by simp [List.append_assoc]
        rw [ea] at s4
        refine ih (i + 1) q'' (c1 ++ ms ++ c2) [10] m4 (by omega) (by omega) (offM_tr o3' o4) s4 (by omega) l2 ?_ (fun y hy => ?_) ?_ (fun C' S hS => ?_)
        · rw [List.length_append, List.length_append]
          have : [10].length = 1 := rfl
          omega
        · rw [List.mem_singleton.mp hy]; rfl
        · have := evp_bin (c := 10) hev r3.1 (by omega) (fun z => ⟨rfl, rfl⟩)
          exact evp_mono this (by omega)
        · refine tss_tr (hst C' S hS) (tss_tr (tss_1 (and1 C' S hS)) (tss_tr (r3.2 _ _) ?_))
          rw [show C' ++ (c1 ++ ms) ++ c2 = C' ++ (c1 ++ ms ++ c2) by simp [List.append_assoc]]
          exact tss_1 (tsE_go (S := 10 :: S) (fun v hv => by
            obtain rfl : 10 = v := Option.some.inj hv
            decide))
      · have o3' := offM_tr o2' o3
        exact c_emitX h0 (G m3 o3') x3 (fun m4 o4 x4 => no _ m4 k' p (offM_tr o3' o4) x4 (fun C' S hS => tss_tr (hst C' S hS) (tss_tr (tss_1 (and1 C' S hS)) (r3 _ _))))
  refine rX6_both h0.1 hG (hP (d + 6) q C o M _ (by omega) hok hG hs hb hq (fun m q' cs o' hs' hlt hle hlen hR => ?_) (fun m k p o' x hx => no 0 m k p o' x (fun C S _ => hx C S)))
  exact loop (T.2 - q' + 1) 0 q' cs [] m (by omega) (by omega) o' (by rw [List.append_nil]; exact hs') hlt hle (by rw [List.append_nil]; exact hlen) (fun x hx => by cases hx) (by rw [List.append_nil]; exact evp_mono hR.1 (by omega)) (fun C' S hS => tss_tr (hR.2 C' S) (tss_1 (tsE_go (fun v hv => (hS v hv).1))))
theorem c_test {T : dT} {tk a r s k : Nat} (h0 : cX0 a r) (hP : BOTH T tk a r s k) : TEST T tk a r s k := by
  intro D q C o M K hD hok hG hs hb hq hK1 hK2
  obtain ⟨d, rfl⟩ : ∃ d, D = d + 7 := ⟨D - 7, by omega⟩
  have hn := hs.1.2.1
  have G : ∀ m, offM (wPr a r) M m → mm_G m.2.2 := fun m o' => by rw [o'.2.2]; exact hG
  have no : ∀ (i : Int32) (m : mm_M) (k p : Nat), offM (wPr a r) M m → cXs a r k p m → (∀ C S, tpT S → tss T tk (4, q, C, S, o) (xC k p)) → jX6_test_6 (d + 6) a m K i := fun i m k p o' x hx => lX6_test_6 h0.1 (G m o') (ite_go (fun _ => hK2 m k p o' x hx) (fun _ => c_takeWordX h0 (G m o') x (ipos rfl (hK2 m k p o' x hx))))
  have h1110 : ∀ x : Nat, is10 x = true → is11 x = true := fun x h => by
    unfold is10 at h
    have := of_decide_eq_true h
    unfold is11; exact decide_eq_true (Or.inl this)
  have loop : ∀ (f i q' : Nat) (c1 ms : List Nat) (m : mm_M), T.2 - q' < f → i + 1 ≤ q' → offM (wPr a r) M m → cPs T tk a r s q' (C ++ (c1 ++ ms)) o m → q < q' → q' ≤ T.2 → (c1 ++ ms).length ≤ q' - q → (∀ x ∈ ms, is11 x = true) → evp tk (8 + 5 * k) true (c1 ++ ms) → wdn T q' ≠ 19 → (∀ C S, tpT S → tss T tk (4, q, C, S, o) (6, q', C ++ c1, ms ++ S, o)) → jX6_test_6 (d + 6) a m K (nI i) := by
    intro f
    induction f with
    | zero => intro i q' c1 ms m hf; omega
    | succ f ih =>
      intro i q' c1 ms m hf hi o' hs' hlt hle hlen hms hev n19 hst
      have hGm := G m o'
      refine lX6_test_6 h0.1 hGm (ineg (nI_ge (b := 1600) (by omega) (by decide)) (c_takeWord h0 hGm hs' hle (fun hw m2 o2 s2 => ineg (by decide) ?_) (fun hw => ipos rfl (hK1 m q' (c1 ++ ms) o' hs' hlt hle hlen ⟨hev, n19, hw, c1, ms, rfl, hms, hst⟩))))
      have hwn : wdn T q' ≠ -1 := by rw [hw]; decide
      have hlt' := wd_lt hwn
      have hnx := (nxt_b hle).2.2 hlt'
      have hnx2 := (nxt_b hle).2.1
      have o2' := offM_tr o' o2
      have or1 : ∀ C' S, tpT S → tst1 T tk (6, q', C' ++ c1, ms ++ S, o) (4, nxt T q', C' ++ (c1 ++ ms), 11 :: S, o) := fun C' S hS => by
        show _ = tsG T q' (C' ++ c1) (ms ++ S) o
        obtain ⟨w1, w2⟩ := tw_app (P := is11) ms S hms (fun v hv => by have := (hS v hv).2; unfold is11; exact decide_eq_false (by omega))
        unfold tsG
        rw [if_neg (fun z => by rw [wd_S hwn] at z; exact absurd z.1 (by decide)), if_neg n19, if_pos hw, w1, w2, List.append_assoc]
      have hB : ∀ S : List Nat, tpB (11 :: S) := fun S v hv => by
        obtain rfl : 11 = v := Option.some.inj hv
        decide
      refine hP (d + 6) _ _ o m2 _ (by omega) hok (G m2 o2') s2 (by rw [List.length_append]; omega) hnx2 (fun m3 q'' cs2 o3 s3 l1 l2 l3 r3 => ?_) (fun m3 k' p o3 x3 r3 => ?_)
      · have o3' := offM_tr o2' o3
        obtain ⟨v1, v2, c2, ms2, rfl, v4, v5⟩ := r3
        have hl : (C ++ (c1 ++ ms) ++ (c2 ++ ms2)).length = C.length + (c1 ++ ms).length + (c2 ++ ms2).length := by rw [List.length_append, List.length_append]
        refine c_emitP (c := 11) h0 (G m3 o3') s3 (by rw [hl]; omega) (by decide) (fun m4 o4 s4 => ?_)
        rw [nI_1]
        have ea : C ++ (c1 ++ ms) ++ (c2 ++ ms2) ++ [11] = C ++ ((c1 ++ ms ++ c2) ++ (ms2 ++ [11])) := by simp [List.append_assoc]
        have eb : c1 ++ ms ++ (c2 ++ ms2) ++ [11] = (c1 ++ ms ++ c2) ++ (ms2 ++ [11]) := by simp [List.append_assoc]
        rw [ea] at s4
        refine ih (i + 1) q'' (c1 ++ ms ++ c2) (ms2 ++ [11]) m4 (by omega) (by omega) (offM_tr o3' o4) s4 (by omega) l2 ?_ (fun y hy => ?_) ?_ v2 (fun C' S hS => ?_)
        · rw [← eb, List.length_append, List.length_append]
          have : [11].length = 1 := rfl
          omega
        · rcases List.mem_append.mp hy with hy | hy
          · exact h1110 y (v4 y hy)
          · rw [List.mem_singleton.mp hy]; rfl
        · have := evp_bin (c := 11) hev v1 (by omega) (fun z => ⟨rfl, rfl⟩)
          rw [eb] at this
          exact evp_mono this (by omega)
        · refine tss_tr (hst C' S hS) (tss_tr (tss_1 (or1 C' S hS)) ?_)
          have := v5 (C' ++ (c1 ++ ms)) (11 :: S) (hB S)
          rw [show C' ++ (c1 ++ ms) ++ c2 = C' ++ (c1 ++ ms ++ c2) by simp [List.append_assoc], show ms2 ++ 11 :: S = ms2 ++ [11] ++ S by simp [List.append_assoc]] at this
          exact this
      · have o3' := offM_tr o2' o3
        exact c_emitX h0 (G m3 o3') x3 (fun m4 o4 x4 => no _ m4 k' p (offM_tr o3' o4) x4 (fun C' S hS => tss_tr (hst C' S hS) (tss_tr (tss_1 (or1 C' S hS)) (r3 _ _ (hB S)))))
  refine rX6_test h0.1 hG (hP (d + 6) q C o M _ (by omega) hok hG hs hb hq (fun m q' cs o' hs' hlt hle hlen hR => ?_) (fun m k p o' x hx => no 0 m k p o' x (fun C S hS => hx C S (tpT_B hS))))
  obtain ⟨v1, v2, c1, ms, rfl, v4, v5⟩ := hR
  exact loop (T.2 - q' + 1) 0 q' c1 ms m (by omega) (by omega) o' hs' hlt hle hlen (fun x hx => h1110 x (v4 x hx)) (evp_mono v1 (by omega)) v2 (fun C' S hS => v5 C' S (tpT_B hS))
