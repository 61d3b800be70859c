/-! ===== the class reads products and sums ===== -/
theorem isS_lt {T : dT} {q : Nat} {c : Int32} (h : isS T q c = true) : q < T.2 ∧ T.1 q = c ∧ tkk T q = 3 := by
  unfold isS at h
  obtain ⟨h1, h2⟩ := of_decide_eq_true h
  rcases tkk_c T q with ⟨a1, a2, a3⟩ | ⟨a1, a2, a3, a4, a5⟩ | ⟨a1, a2, a3, a4, a5⟩ | ⟨a1, a2, a3, a4⟩
  · rw [a1] at h1; exact absurd h1 (by decide)
  · exact ⟨a2, h2, h1⟩
  · exact ⟨a2, h2, h1⟩
  · exact ⟨a2, h2, h1⟩
theorem isS_ne {T : dT} {q : Nat} {c c' : Int32} (h : isS T q c = true) (hc : c ≠ c') : isS T q c' = false := by
  have := (isS_lt h).2.1
  unfold isS
  exact decide_eq_false (fun z => hc (this.symm.trans z.2))
theorem tw_app {P : Nat → Bool} : ∀ (ms S : List Nat), (∀ x ∈ ms, P x = true) → (∀ v, S.head? = some v → P v = false) → (ms ++ S).takeWhile P = ms ∧ (ms ++ S).dropWhile P = S
  | [], [], _, _ => ⟨rfl, rfl⟩
  | [], v :: S, _, h => by
    have := h v rfl
    constructor
    · show (v :: S).takeWhile P = []
      rw [List.takeWhile_cons_of_neg (by rw [this]; decide)]
    · show (v :: S).dropWhile P = v :: S
      rw [List.dropWhile_cons_of_neg (by rw [this]; decide)]
  | x :: ms, S, h1, h2 => by
    have hx := h1 x List.mem_cons_self
    obtain ⟨i1, i2⟩ := tw_app ms S (fun y hy => h1 y (List.mem_cons_of_mem _ hy)) h2
    constructor
    · show (x :: (ms ++ S)).takeWhile P = x :: ms
      rw [List.takeWhile_cons_of_pos hx, i1]
    · show (x :: (ms ++ S)).dropWhile P = S
      rw [List.dropWhile_cons_of_pos hx, i2]
def tpM (S : List Nat) : Prop := ∀ v, S.head? = some v → v < 60 ∧ isMu v = false
def tpA (S : List Nat) : Prop := ∀ v, S.head? = some v → v < 60 ∧ isAM v = false
theorem tpA_M {S : List Nat} (h : tpA S) : tpM S := fun v hv => by
  obtain ⟨h1, h2⟩ := h v hv
  refine ⟨h1, ?_⟩
  unfold isAM at h2
  have := of_decide_eq_false h2
  unfold isMu
  exact decide_eq_false (by omega)
theorem stE_go {T : dT} {tk q o : Nat} {C S : List Nat} (h : ∀ v, S.head? = some v → v < 60) : stp T tk (1, q, C, S, o) = (2, q, C, S, o) := by
  show smE q C S o = _
  cases S with
  | nil => rfl
  | cons v S =>
    have := h v rfl
    unfold smE
    show (if 60 ≤ v then _ else _) = _
    rw [if_neg (by omega)]
theorem stG_mul {T : dT} {tk q o : Nat} {C ms S : List Nat} (h : isS T q 42 = true ∨ isS T q 47 = true) (h1 : ∀ x ∈ ms, isMu x = true) (h2 : tpM S) : stp T tk (2, q, C, ms ++ S, o) = (0, nxt T q, C ++ ms, (if isS T q 42 then 3 else 4) :: S, o) := by
  show smG T q C (ms ++ S) o = _
  obtain ⟨w1, w2⟩ := tw_app (P := isMu) ms S h1 (fun v hv => (h2 v hv).2)
  have h41 : isS T q 41 = false := by
    rcases h with h | h
    · exact isS_ne h (by decide)
    · exact isS_ne h (by decide)
  unfold smG
  rw [if_neg (fun z => by rw [h41] at z; exact absurd z.1 (by decide)), if_pos h, w1, w2]
theorem stG_add {T : dT} {tk q o : Nat} {C ms S : List Nat} (h : isS T q 43 = true ∨ isS T q 45 = true) (h1 : ∀ x ∈ ms, isAM x = true) (h2 : tpA S) : stp T tk (2, q, C, ms ++ S, o) = (0, nxt T q, C ++ ms, (if isS T q 43 then 1 else 2) :: S, o) := by
  show smG T q C (ms ++ S) o = _
  obtain ⟨w1, w2⟩ := tw_app (P := isAM) ms S h1 (fun v hv => (h2 v hv).2)
  have hx : isS T q 41 = false ∧ isS T q 42 = false ∧ isS T q 47 = false := by
    rcases h with h | h
    · exact ⟨isS_ne h (by decide), isS_ne h (by decide), isS_ne h (by decide)⟩
    · exact ⟨isS_ne h (by decide), isS_ne h (by decide), isS_ne h (by decide)⟩
  obtain ⟨x1, x2, x3⟩ := hx
  unfold smG
  rw [if_neg (fun z => by rw [x1] at z; exact absurd z.1 (by decide)), if_neg (fun z => by rw [x2, x3] at z; rcases z with z | z <;> exact absurd z (by decide)), if_pos h, w1, w2]
def pOk (T : dT) (tk a r s q : Nat) (C : List Nat) (o : Nat) (M : mm_M) (R : Nat → List Nat → Prop) (K : mm_M → Prop) : Prop := ∀ m q' cs, offM (wPr a r) M m → cPs T tk a r s q' (C ++ cs) o m → q < q' → q' ≤ T.2 → cs.length ≤ q' - q → R q' cs → K m
def pNo (a r : Nat) (M : mm_M) (X : Nat → Nat → Prop) (K : mm_M → Prop) : Prop := ∀ m k p, offM (wPr a r) M m → cXs a r k p m → X k p → K m
def PART (T : dT) (tk a r s k : Nat) : Prop := ∀ (D q : Nat) (C : List Nat) (o : Nat) (M : mm_M) (K : mm_M → Prop), 20 + 6 * k ≤ D → o + k = 6 → mm_G M.2.2 → cPs T tk a r s q C o M → s + C.length ≤ 6 + q → q ≤ T.2 → pOk T tk a r s q C o M (fun q' cs => evp tk (1 + 3 * k) false cs ∧ ∀ C S, str T tk (0, q, C, S, o) (1, q', C ++ cs, S, o)) K → pNo a r M (fun k p => ∀ C S, str T tk (0, q, C, S, o) (xC k p)) K → mm_CV mX6_part D [.ref a] M K
def PROD (T : dT) (tk a r s k : Nat) : Prop := ∀ (D q : Nat) (C : List Nat) (o : Nat) (M : mm_M) (K : mm_M → Prop), 21 + 6 * k ≤ D → o + k = 6 → mm_G M.2.2 → cPs T tk a r s q C o M → s + C.length ≤ 6 + q → q ≤ T.2 → pOk T tk a r s q C o M (fun q' cs => evp tk (2 + 3 * k) false cs ∧ isS T q' 42 = false ∧ isS T q' 47 = false ∧ ∃ c1 ms, cs = c1 ++ ms ∧ (∀ x ∈ ms, isMu x = true) ∧ ∀ C S, tpM S → str T tk (0, q, C, S, o) (2, q', C ++ c1, ms ++ S, o)) K → pNo a r M (fun k p => ∀ C S, tpM S → str T tk (0, q, C, S, o) (xC k p)) K → mm_CV mX6_product D [.ref a] M K
def sumR (T : dT) (tk q o n q' : Nat) (cs : List Nat) : Prop := evp tk n false cs ∧ isS T q' 42 = false ∧ isS T q' 47 = false ∧ isS T q' 43 = false ∧ isS T q' 45 = false ∧ ∃ c1 ms, cs = c1 ++ ms ∧ (∀ x ∈ ms, isAM x = true) ∧ ∀ C S, tpA S → str T tk (0, q, C, S, o) (2, q', C ++ c1, ms ++ S, o)
def SUM (T : dT) (tk a r s k : Nat) : Prop := ∀ (D q : Nat) (C : List Nat) (o : Nat) (M : mm_M) (K : mm_M → Prop), 22 + 6 * k ≤ D → o + k = 6 → mm_G M.2.2 → cPs T tk a r s q C o M → s + C.length ≤ 6 + q → q ≤ T.2 → pOk T tk a r s q C o M (sumR T tk q o (3 + 3 * k)) K → pNo a r M (fun k p => ∀ C S, tpA S → str T tk (0, q, C, S, o) (xC k p)) K → mm_CV mX6_sum D [.ref a] M K
theorem c_prod {T : dT} {tk a r s k : Nat} (h0 : cX0 a r) (hP : PART T tk a r s k) : PROD T tk a r s k := by
  intro D q C o M K hD hok hG hs hb hq hK1 hK2
  obtain ⟨d, rfl⟩ : ∃ d, D = d + 6 := ⟨D - 6, by omega⟩
  have hn := hs.1.2.1
  have G : ∀ m, offM (wPr a r) M m → mm_G m.2.2 := fun m o' => by rw [o'.2.2]; exact hG
  have no : ∀ (i : Int32) (m : mm_M) (k p : Nat), offM (wPr a r) M m → cXs a r k p m → (∀ C S, tpM S → str T tk (0, q, C, S, o) (xC k p)) → jX6_product_6 (d + 5) a m K i := fun i m k p o' x hx => lX6_product_6 h0.1 (G m o') (ite_go (fun _ => hK2 m k p o' x hx) (fun _ => ineg (X_n0 x) (hK2 m k p o' x hx)))
  have loop : ∀ (f i q' : Nat) (c1 ms : List Nat) (m : mm_M), T.2 - q' < f → i + 1 ≤ q' → offM (wPr a r) M m → cPs T tk a r s q' (C ++ (c1 ++ ms)) o m → q < q' → q' ≤ T.2 → (c1 ++ ms).length ≤ q' - q → (∀ x ∈ ms, isMu x = true) → evp tk (2 + 3 * k) false (c1 ++ ms) → (∀ C S, tpM S → str T tk (0, q, C, S, o) (2, q', C ++ c1, ms ++ S, o)) → jX6_product_6 (d + 5) a m K (nI i) := by
    intro f
    induction f with
    | zero => intro i q' c1 ms m hf; omega
    | succ f ih =>
      intro i q' c1 ms m hf hi o' hs' hlt hle hlen hms hev hst
      have hGm := G m o'
      refine lX6_product_6 h0.1 hGm (ineg (nI_ge (b := 1600) (by omega) (by decide)) (ipos hs'.2.2.1 ?_))
      have go : (isS T q' 42 = true ∨ isS T q' 47 = true) → jX6_product_38 (d + 5) a m K (nI i) := fun hsg => by
        have hlt' : q' < T.2 := by
          rcases hsg with z | z
          · exact (isS_lt z).1
          · exact (isS_lt z).1
        have hnx := (nxt_b hle).2.2 hlt'
        have hnx2 := (nxt_b hle).2.1
        have body : ∀ (x : Int32) (c : Nat), x.toInt = tau (c : Int) → (if isS T q' 42 then 3 else 4) = c → mm_CV mX6_next (d + 5) [.ref a] m (fun m56 => mm_CV mX6_part (d + 5) [.ref a] m56 (fun m60 => mm_CV mX6_emit (d + 5) [.ref a, .int x] m60 (fun m65 => jX6_product_6 (d + 5) a m65 K (nI i + 1)))) := fun x c hx hc => by
          have hc34 : c = 3 ∨ c = 4 := by rw [← hc]; split <;> omega
          refine c_nextP h0 hGm hs' hle (fun m2 o2 s2 => ?_)
          have o2' := offM_tr o' o2
          refine hP (d + 5) _ _ o m2 _ (by omega) hok (G m2 o2') s2 (by rw [List.length_append]; omega) hnx2 (fun m3 q'' c2 o3 s3 l1 l2 l3 r3 => ?_) (fun m3 k' p o3 x3 r3 => ?_)
          · have o3' := offM_tr o2' o3
            have hl : (C ++ (c1 ++ ms) ++ c2).length = C.length + (c1 ++ ms).length + c2.length := by rw [List.length_append, List.length_append]
            refine c_emitP h0 (G m3 o3') s3 (by rw [hl]; omega) hx (fun m4 o4 s4 => ?_)
            rw [nI_1]
            have ea : C ++ (c1 ++ ms) ++ c2 ++ [c] = C ++ ((c1 ++ ms ++ c2) ++ [c]) := by simp [List.append_assoc]
            rw [ea] at s4
            refine ih (i + 1) q'' (c1 ++ ms ++ c2) [c] m4 (by omega) (by omega) (offM_tr o3' o4) s4 (by omega) l2 ?_ (fun y hy => ?_) ?_ (fun C' S hS => ?_)
            · rw [List.length_append, List.length_append]
              have : [c].length = 1 := rfl
              omega
            · rw [List.mem_singleton.mp hy]; unfold isMu; exact decide_eq_true hc34
            · have := evp_bin (c := c) hev r3.1 (by omega) (fun z => by omega)
              rw [show decide (7 ≤ c) = false from decide_eq_false (by omega), show max (2 + 3 * k) (1 + 3 * k + 1) = 2 + 3 * k by omega] at this
              exact this
            · refine str_tr (hst C' S hS) (str_tr (str_1 (stG_mul hsg hms hS)) ?_)
              rw [hc]
              refine str_tr (r3.2 _ _) ?_
              rw [show C' ++ c1 ++ ms ++ c2 = C' ++ (c1 ++ ms ++ c2) by simp [List.append_assoc]]
              exact str_1 (stE_go (S := c :: S) (fun v hv => by
                obtain rfl : c = v := Option.some.inj hv
                omega))
          · have o3' := offM_tr o2' o3
            refine c_emitX h0 (G m3 o3') x3 (fun m4 o4 x4 => no _ m4 k' p (offM_tr o3' o4) x4 (fun C' S hS => ?_))
            refine str_tr (hst C' S hS) (str_tr (str_1 (stG_mul hsg hms hS)) (r3 _ _))
        refine lX6_product_38 h0.1 hGm (c_isSign h0 hGm hs' (fun z => ineg (by decide) (body (-3) 3 (by decide) (by rw [if_pos z]))) (fun z => ipos rfl (body (-4) 4 (by decide) (by rw [if_neg (by rw [z]; decide)]))))
      refine c_isSign h0 hGm hs' (fun z => ineg (by decide) (go (Or.inl z))) (fun z => ipos rfl (c_isSign h0 hGm hs' (fun z2 => ineg (by decide) (go (Or.inr z2))) (fun z2 => ipos rfl (hK1 m q' (c1 ++ ms) o' hs' hlt hle hlen ⟨hev, z, z2, c1, ms, rfl, hms, hst⟩))))
  refine rX6_product h0.1 hG (hP (d + 5) q C o M _ (by omega) hok hG hs hb hq (fun m q' cs o' hs' hlt hle hlen hR => ?_) (fun m k p o' x hx => no 0 m k p o' x (fun C S _ => hx C S)))
  exact loop (T.2 - q' + 1) 0 q' cs [] m (by omega) (by omega) o' (by rw [List.append_nil]; exact hs') hlt hle (by rw [List.append_nil]; exact hlen) (fun x hx => by cases hx) (by rw [List.append_nil]; exact evp_mono hR.1 (by omega)) (fun C' S hS => str_tr (hR.2 C' S) (str_1 (stE_go (fun v hv => (hS v hv).1))))
theorem c_sum {T : dT} {tk a r s k : Nat} (h0 : cX0 a r) (hP : PROD T tk a r s k) : SUM T tk a r s k := by
  intro D q C o M K hD hok hG hs hb hq hK1 hK2
  obtain ⟨d, rfl⟩ : ∃ d, D = d + 6 := ⟨D - 6, by omega⟩
  have hn := hs.1.2.1
  have G : ∀ m, offM (wPr a r) M m → mm_G m.2.2 := fun m o' => by rw [o'.2.2]; exact hG
  have no : ∀ (i : Int32) (m : mm_M) (k p : Nat), offM (wPr a r) M m → cXs a r k p m → (∀ C S, tpA S → str T tk (0, q, C, S, o) (xC k p)) → jX6_sum_6 (d + 5) a m K i := fun i m k p o' x hx => lX6_sum_6 h0.1 (G m o') (ite_go (fun _ => hK2 m k p o' x hx) (fun _ => ineg (X_n0 x) (hK2 m k p o' x hx)))
  have loop : ∀ (f i q' : Nat) (c1 ms : List Nat) (m : mm_M), T.2 - q' < f → i + 1 ≤ q' → offM (wPr a r) M m → cPs T tk a r s q' (C ++ (c1 ++ ms)) o m → q < q' → q' ≤ T.2 → (c1 ++ ms).length ≤ q' - q → (∀ x ∈ ms, isAM x = true) → evp tk (3 + 3 * k) false (c1 ++ ms) → isS T q' 42 = false → isS T q' 47 = false → (∀ C S, tpA S → str T tk (0, q, C, S, o) (2, q', C ++ c1, ms ++ S, o)) → jX6_sum_6 (d + 5) a m K (nI i) := by
    intro f
    induction f with
    | zero => intro i q' c1 ms m hf; omega
    | succ f ih =>
      intro i q' c1 ms m hf hi o' hs' hlt hle hlen hms hev n42 n47 hst
      have hGm := G m o'
      refine lX6_sum_6 h0.1 hGm (ineg (nI_ge (b := 1600) (by omega) (by decide)) (ipos hs'.2.2.1 ?_))
      have go : (isS T q' 43 = true ∨ isS T q' 45 = true) → jX6_sum_38 (d + 5) a m K (nI i) := fun hsg => by
        have hlt' : q' < T.2 := by
          rcases hsg with z | z
          · exact (isS_lt z).1
          · exact (isS_lt z).1
        have hnx := (nxt_b hle).2.2 hlt'
        have hnx2 := (nxt_b hle).2.1
        have body : ∀ (x : Int32) (c : Nat), x.toInt = tau (c : Int) → (if isS T q' 43 then 1 else 2) = c → mm_CV mX6_next (d + 5) [.ref a] m (fun m56 => mm_CV mX6_product (d + 5) [.ref a] m56 (fun m60 => mm_CV mX6_emit (d + 5) [.ref a, .int x] m60 (fun m65 => jX6_sum_6 (d + 5) a m65 K (nI i + 1)))) := fun x c hx hc => by
          have hc34 : c = 1 ∨ c = 2 := by rw [← hc]; split <;> omega
          have hcS : ∀ S : List Nat, tpM (c :: S) := fun S v hv => by
            obtain rfl : c = v := Option.some.inj hv
            exact ⟨by omega, by unfold isMu; exact decide_eq_false (by omega)⟩
          refine c_nextP h0 hGm hs' hle (fun m2 o2 s2 => ?_)
          have o2' := offM_tr o' o2
          refine hP (d + 5) _ _ o m2 _ (by omega) hok (G m2 o2') s2 (by rw [List.length_append]; omega) hnx2 (fun m3 q'' cs2 o3 s3 l1 l2 l3 r3 => ?_) (fun m3 k' p o3 x3 r3 => ?_)
          · have o3' := offM_tr o2' o3
            obtain ⟨v1, v2, v3, c2, ms2, rfl, v4, v5⟩ := r3
            have hl : (C ++ (c1 ++ ms) ++ (c2 ++ ms2)).length = C.length + (c1 ++ ms).length + (c2 ++ ms2).length := by rw [List.length_append, List.length_append]
            refine c_emitP h0 (G m3 o3') s3 (by rw [hl]; omega) hx (fun m4 o4 s4 => ?_)
            rw [nI_1]
            have ea : C ++ (c1 ++ ms) ++ (c2 ++ ms2) ++ [c] = C ++ ((c1 ++ ms ++ c2) ++ (ms2 ++ [c])) := by simp [List.append_assoc]
            have eb : c1 ++ ms ++ (c2 ++ ms2) ++ [c] = (c1 ++ ms ++ c2) ++ (ms2 ++ [c]) := by simp [List.append_assoc]
            rw [ea] at s4
            refine ih (i + 1) q'' (c1 ++ ms ++ c2) (ms2 ++ [c]) m4 (by omega) (by omega) (offM_tr o3' o4) s4 (by omega) l2 ?_ (fun y hy => ?_) ?_ v2 v3 (fun C' S hS => ?_)
            · rw [← eb, List.length_append, List.length_append]
              have : [c].length = 1 := rfl
              omega
            · rcases List.mem_append.mp hy with hy | hy
              · have := v4 y hy
                unfold isMu at this
                have := of_decide_eq_true this
                unfold isAM; exact decide_eq_true (by omega)
              · rw [List.mem_singleton.mp hy]; unfold isAM; exact decide_eq_true (by omega)
            · have := evp_bin (c := c) hev v1 (by omega) (fun z => by omega)
              rw [show decide (7 ≤ c) = false from decide_eq_false (by omega), show max (3 + 3 * k) (2 + 3 * k + 1) = 3 + 3 * k by omega, eb] at this
              exact this
            · refine str_tr (hst C' S hS) (str_tr (str_1 (stG_add hsg hms hS)) ?_)
              rw [hc]
              have := v5 (C' ++ c1 ++ ms) (c :: S) (hcS S)
              rw [show C' ++ c1 ++ ms ++ c2 = C' ++ (c1 ++ ms ++ c2) by simp [List.append_assoc], show ms2 ++ c :: S = ms2 ++ [c] ++ S by simp [List.append_assoc]] at this
              exact this
          · have o3' := offM_tr o2' o3
            refine c_emitX h0 (G m3 o3') x3 (fun m4 o4 x4 => no _ m4 k' p (offM_tr o3' o4) x4 (fun C' S hS => ?_))
            refine str_tr (hst C' S hS) (str_tr (str_1 (stG_add hsg hms hS)) (r3 _ _ ?_))
            rw [hc]; exact hcS S
        refine lX6_sum_38 h0.1 hGm (c_isSign h0 hGm hs' (fun z => ineg (by decide) (body (-1) 1 (by decide) (by rw [if_pos z]))) (fun z => ipos rfl (body (-2) 2 (by decide) (by rw [if_neg (by rw [z]; decide)]))))
      refine c_isSign h0 hGm hs' (fun z => ineg (by decide) (go (Or.inl z))) (fun z => ipos rfl (c_isSign h0 hGm hs' (fun z2 => ineg (by decide) (go (Or.inr z2))) (fun z2 => ipos rfl (hK1 m q' (c1 ++ ms) o' hs' hlt hle hlen ⟨hev, n42, n47, z, z2, c1, ms, rfl, hms, hst⟩))))
  refine rX6_sum h0.1 hG (hP (d + 5) q C o M _ (by omega) hok hG hs hb hq (fun m q' cs o' hs' hlt hle hlen hR => ?_) (fun m k p o' x hx => no 0 m k p o' x (fun C S hS => hx C S (tpA_M hS))))
  obtain ⟨v1, v2, v3, c1, ms, rfl, v4, v5⟩ := hR
  exact loop (T.2 - q' + 1) 0 q' c1 ms m (by omega) (by omega) o' hs' hlt hle hlen (fun x hx => by
    have := v4 x hx
    unfold isMu at this
    have := of_decide_eq_true this
    unfold isAM; exact decide_eq_true (by omega)) (evp_mono v1 (by omega)) v2 v3 (fun C' S hS => v5 C' S (tpA_M hS))
