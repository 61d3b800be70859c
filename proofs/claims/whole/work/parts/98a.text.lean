/-! ===== a text: bytes, and how many; its tokens ===== -/
abbrev dT : Type := (Nat → Int32) × Nat
def isLt (c : Int32) : Bool := decide (97 ≤ c.toInt ∧ c.toInt ≤ 122)
def isDg (c : Int32) : Bool := decide (48 ≤ c.toInt ∧ c.toInt ≤ 57)
def isBl (c : Int32) : Bool := decide (c.toInt = 10 ∨ c.toInt = 32)
def rnF (T : dT) (P : Int32 → Bool) : Nat → Nat → Nat
  | 0, p => p
  | k + 1, p => if P (T.1 p) = true then rnF T P k (p + 1) else p
/-- the first place from p on, or the end, whose byte is not so -/
def rn (T : dT) (P : Int32 → Bool) (p : Nat) : Nat := rnF T P (T.2 - p) p
theorem rn_end {T : dT} {P : Int32 → Bool} {p : Nat} (h : T.2 ≤ p) : rn T P p = p := by
  unfold rn
  rw [show T.2 - p = 0 by omega]
  rfl
theorem rn_lt {T : dT} {P : Int32 → Bool} {p : Nat} (h : p < T.2) : rn T P p = if P (T.1 p) = true then rn T P (p + 1) else p := by
  unfold rn
  rw [show T.2 - p = (T.2 - (p + 1)) + 1 by omega]
  rfl
theorem rn_b {T : dT} {P : Int32 → Bool} : ∀ (k p : Nat), p + k = T.2 → p ≤ rn T P p ∧ rn T P p ≤ T.2 ∧ (rn T P p < T.2 → P (T.1 (rn T P p)) = false) ∧ ∀ j, p ≤ j → j < rn T P p → P (T.1 j) = true
  | 0, p, h => by
    rw [rn_end (by omega)]
    exact ⟨by omega, by omega, fun q => by omega, fun j h1 h2 => by omega⟩
  | k + 1, p, h => by
    rw [rn_lt (by omega)]
    by_cases c : P (T.1 p) = true
    · rw [if_pos c]
      obtain ⟨a1, a2, a3, a4⟩ := rn_b (T := T) (P := P) k (p + 1) (by omega)
      refine ⟨by omega, a2, a3, fun j h1 h2 => ?_⟩
      by_cases e : j = p
      · subst e; exact c
      · exact a4 j (by omega) h2
    · rw [if_neg c]
      exact ⟨Nat.le_refl _, by omega, fun _ => by simpa using c, fun j h1 h2 => by omega⟩
theorem rn_p {T : dT} {P : Int32 → Bool} {p : Nat} (h : p ≤ T.2) : p ≤ rn T P p ∧ rn T P p ≤ T.2 ∧ (rn T P p < T.2 → P (T.1 (rn T P p)) = false) ∧ ∀ j, p ≤ j → j < rn T P p → P (T.1 j) = true := rn_b (T.2 - p) p (by omega)
theorem rn_id {T : dT} {P : Int32 → Bool} {p : Nat} (h : p ≤ T.2) : rn T P (rn T P p) = rn T P p := by
  obtain ⟨a1, a2, a3, a4⟩ := rn_p (P := P) h
  by_cases c : rn T P p < T.2
  · rw [rn_lt c, if_neg (by rw [a3 c]; decide)]
  · exact rn_end (by omega)
def knd (c : Int32) : Int32 := if isLt c then 1 else if isDg c then 2 else 3
def glu (T : dT) (q : Nat) : Bool := decide (0 < q) && (isLt (T.1 (q - 1)) || isDg (T.1 (q - 1)))
def tkk (T : dT) (q : Nat) : Int32 := if T.2 ≤ q then 0 else if glu T q then 3 else knd (T.1 q)
def ten (T : dT) (q : Nat) : Nat := if tkk T q = 0 then q else if tkk T q = 1 then rn T isLt q else if tkk T q = 2 then rn T isDg q else q + 1
/-- where the next token begins -/
def nxt (T : dT) (q : Nat) : Nat := rn T isBl (ten T q)
theorem knd_c (c : Int32) : (knd c = 1 ∧ isLt c = true) ∨ (knd c = 2 ∧ isDg c = true ∧ isLt c = false) ∨ (knd c = 3 ∧ isLt c = false ∧ isDg c = false) := by
  unfold knd
  cases h1 : isLt c with
  | true => exact Or.inl ⟨rfl, rfl⟩
  | false =>
    cases h2 : isDg c with
    | true => exact Or.inr (Or.inl ⟨rfl, rfl, rfl⟩)
    | false => exact Or.inr (Or.inr ⟨rfl, rfl, rfl⟩)
theorem tkk_c (T : dT) (q : Nat) : (tkk T q = 0 ∧ T.2 ≤ q ∧ ten T q = q) ∨ (tkk T q = 1 ∧ q < T.2 ∧ glu T q = false ∧ isLt (T.1 q) = true ∧ ten T q = rn T isLt q) ∨ (tkk T q = 2 ∧ q < T.2 ∧ glu T q = false ∧ isDg (T.1 q) = true ∧ ten T q = rn T isDg q) ∨ (tkk T q = 3 ∧ q < T.2 ∧ (glu T q = true ∨ knd (T.1 q) = 3) ∧ ten T q = q + 1) := by
  by_cases h : T.2 ≤ q
  · have e : tkk T q = 0 := by unfold tkk; rw [if_pos h]
    exact Or.inl ⟨e, h, by unfold ten; rw [if_pos e]⟩
  · cases g : glu T q with
    | true =>
      have e : tkk T q = 3 := by unfold tkk; rw [if_neg h, if_pos g]
      exact Or.inr (Or.inr (Or.inr ⟨e, by omega, Or.inl rfl, by unfold ten; rw [e]; rfl⟩))
    | false =>
      have e : tkk T q = knd (T.1 q) := by unfold tkk; rw [if_neg h, if_neg (by rw [g]; decide)]
      rcases knd_c (T.1 q) with ⟨k, l⟩ | ⟨k, l, l2⟩ | ⟨k, l, l2⟩
      · rw [k] at e
        exact Or.inr (Or.inl ⟨e, by omega, rfl, l, by unfold ten; rw [e]; rfl⟩)
      · rw [k] at e
        exact Or.inr (Or.inr (Or.inl ⟨e, by omega, rfl, l, by unfold ten; rw [e]; rfl⟩))
      · rw [k] at e
        exact Or.inr (Or.inr (Or.inr ⟨e, by omega, Or.inr k, by unfold ten; rw [e]; rfl⟩))
theorem ten_b {T : dT} {q : Nat} (h : q ≤ T.2) : q ≤ ten T q ∧ ten T q ≤ T.2 ∧ (q < T.2 → q < ten T q) := by
  rcases tkk_c T q with ⟨a1, a2, a3⟩ | ⟨a1, a2, a3, a4, a5⟩ | ⟨a1, a2, a3, a4, a5⟩ | ⟨a1, a2, a3, a4⟩
  · omega
  · have e := rn_lt (P := isLt) a2
    rw [if_pos a4] at e
    obtain ⟨b1, b2, -⟩ := rn_p (T := T) (P := isLt) (p := q + 1) (by omega)
    omega
  · have e := rn_lt (P := isDg) a2
    rw [if_pos a4] at e
    obtain ⟨b1, b2, -⟩ := rn_p (T := T) (P := isDg) (p := q + 1) (by omega)
    omega
  · omega
theorem nxt_b {T : dT} {q : Nat} (h : q ≤ T.2) : q ≤ nxt T q ∧ nxt T q ≤ T.2 ∧ (q < T.2 → q < nxt T q) := by
  obtain ⟨a1, a2, a3⟩ := ten_b h
  obtain ⟨b1, b2, -⟩ := rn_p (T := T) (P := isBl) a2
  unfold nxt
  exact ⟨by omega, b2, fun z => by have := a3 z; omega⟩
/-! words -/
def mtF (T : dT) : List Int32 → Nat → Bool
  | [], _ => true
  | c :: w, p => decide (T.1 p = c) && mtF T w (p + 1)
def mtc (T : dT) (q : Nat) (w : List Int32) : Bool := decide (q + w.length = rn T isLt q) && mtF T w q
def wnF (T : dT) (q : Nat) : List (List Int32) → Nat → Int32
  | [], _ => -1
  | w :: ws, k => if mtc T q w then nI k else wnF T q ws (k + 1)
def wdn (T : dT) (q : Nat) : Int32 := if tkk T q = 1 then wnF T q wds 0 else -1
theorem bytes_ok : ∀ t, t < 165 → mm_ch (nI t) = (wds.flatMap (· ++ [32])).getD t 0 := by decide +kernel
theorem wds_len : (wds.flatMap (· ++ [32])).length = 165 := by decide +kernel
theorem wds_let : ∀ w ∈ wds, ∀ c ∈ w, c ≠ 32 := by decide +kernel
def cTx (T : dT) (a : Nat) (M : mm_M) : Prop := M.1 a 1 = nI T.2 ∧ T.2 ≤ 1600 ∧ M.2.2 a 0 = some 1 ∧ ∀ j, j < T.2 → M.1 1 j = T.1 j
/-- in the words that the class has: which one is it -/
theorem c_wordNumber {d a q : Nat} {T : dT} {M : mm_M} {K : Int32 → mm_M → Prop} (ha : a ∈ mm_Rds) (hG : mm_G M.2.2) (hT : cTx T a M) (hq : q < T.2) (hl : isLt (T.1 q) = true) (h4 : M.1 a 4 = nI q) (h2 : M.1 a 2 = nI (rn T isLt q)) (hK : K (wnF T q wds 0) M) : mm_CI mX6_wordNumber (d + 4) [.ref a] M K := by
  obtain ⟨t1, t2, t3, t4⟩ := hT
  obtain ⟨r1, r2, r3, r4⟩ := rn_p (T := T) (P := isLt) (p := q) (by omega)
  have rq : q < rn T isLt q := by
    have e := rn_lt (P := isLt) hq
    rw [if_pos hl] at e
    obtain ⟨b1, -⟩ := rn_p (T := T) (P := isLt) (p := q + 1) (by omega)
    omega
  have es : nI (rn T isLt q) - nI q = nI (rn T isLt q - q) := pk_sub (by omega)
  refine rX6_wordNumber ha hG ?_
  have word2 : ∀ (w : List Int32) (k i : Nat), (∀ c ∈ w, c ≠ 32) → i + w.length + 1 ≤ 165 → (∀ t c, w[t]? = some c → mm_ch (nI (i + t)) = c) → mm_ch (nI (i + w.length)) = 32 → jX6_wordNumber_6 d a M K (nI (k + 1)) 0 (nI (i + w.length + 1)) → jX6_wordNumber_6 d a M K (nI k) (-1) (nI i) := by
    intro w
    induction w with
    | nil =>
      intro k i hc hi h1 h2' hgo
      have h2' : mm_ch (nI i) = 32 := h2'
      have hi : i + 1 ≤ 165 := hi
      have hgo : jX6_wordNumber_6 d a M K (nI (k + 1)) 0 (nI (i + 1)) := hgo
      refine lX6_wordNumber_6 ha hG (ineg (nI_ge (b := 165) (by omega) (by decide)) ⟨vp_in_nI (by omega) (by decide), ipos h2' ?_⟩)
      rw [h2, h4, es, nI_1 k, nI_1 i]
      exact ineg (fun c => nI_nm1 (b := rn T isLt q - q) (by omega) c.symm) hgo
    | cons c w ih =>
      intro k i hc hi h1 h2' hgo
      have hi : i + (w.length + 1) + 1 ≤ 165 := hi
      have e1 : i + (c :: w).length = i + 1 + w.length := by show i + (w.length + 1) = _; omega
      rw [e1] at h2' hgo
      have ih := ih k (i + 1) (fun x hx => hc x (List.mem_cons_of_mem _ hx)) (by omega) (fun t x hx => by
        have := h1 (t + 1) x hx
        rw [show i + 1 + t = i + (t + 1) by omega]; exact this) h2' hgo
      have hch : mm_ch (nI i) = c := h1 0 c rfl
      have hc32 : ¬ mm_ch (nI i) = 32 := by rw [hch]; exact hc c List.mem_cons_self
      exact lX6_wordNumber_6 ha hG (ineg (nI_ge (b := 165) (by omega) (by decide)) ⟨vp_in_nI (by omega) (by decide), ineg hc32 (ipos (by decide) (by rw [nI_1 i]; exact ih))⟩)
  -- along one word: j letters are alike
  have word : ∀ (w : List Int32) (k i j : Nat), (∀ c ∈ w, c ≠ 32) → i + w.length + 1 ≤ 165 → (∀ t c, w[t]? = some c → mm_ch (nI (i + t)) = c) → mm_ch (nI (i + w.length)) = 32 → q + j ≤ rn T isLt q → ((q + j + w.length = rn T isLt q ∧ mtF T w (q + j) = true) → K (nI k) M) → (¬ (q + j + w.length = rn T isLt q ∧ mtF T w (q + j) = true) → jX6_wordNumber_6 d a M K (nI (k + 1)) 0 (nI (i + w.length + 1))) → jX6_wordNumber_6 d a M K (nI k) (nI j) (nI i) := by
    intro w
    induction w with
    | nil =>
      intro k i j hc hi h1 h2' hj hyes hno
      have h2' : mm_ch (nI i) = 32 := h2'
      have hi : i + 1 ≤ 165 := hi
      refine lX6_wordNumber_6 ha hG (ineg (nI_ge (b := 165) (by omega) (by decide)) ⟨vp_in_nI (by omega) (by decide), ipos h2' ?_⟩)
      rw [h2, h4, es, nI_1 k, nI_1 i]
      refine ite_go (fun c => hyes ⟨?_, rfl⟩) (fun c => hno (fun z => c ?_))
      · have := (nI_eq (by omega) (by omega)).mp c
        show q + j + 0 = _
        omega
      · have z1 : q + j + 0 = rn T isLt q := z.1
        rw [show j = rn T isLt q - q by omega]
    | cons c w ih =>
      intro k i j hc hi h1 h2' hj hyes hno
      have hi : i + (w.length + 1) + 1 ≤ 165 := hi
      have e1 : i + (c :: w).length = i + 1 + w.length := by show i + (w.length + 1) = _; omega
      rw [e1] at h2' hno
      have hc' : ∀ x ∈ w, x ≠ 32 := fun x hx => hc x (List.mem_cons_of_mem _ hx)
      have h1' : ∀ t x, w[t]? = some x → mm_ch (nI (i + 1 + t)) = x := fun t x hx => by
        have := h1 (t + 1) x hx
        rw [show i + 1 + t = i + (t + 1) by omega]; exact this
      have hch : mm_ch (nI i) = c := h1 0 c rfl
      have hc32 : ¬ mm_ch (nI i) = 32 := by rw [hch]; exact hc c List.mem_cons_self
      have el : (c :: w).length = w.length + 1 := rfl
      have em : mtF T (c :: w) (q + j) = (decide (T.1 (q + j) = c) && mtF T w (q + j + 1)) := rfl
      rw [el, em] at hyes hno
      refine lX6_wordNumber_6 ha hG (ineg (nI_ge (b := 165) (by omega) (by decide)) ⟨vp_in_nI (by omega) (by decide), ineg hc32 (ineg (nI_pos (by omega)) ?_)⟩)
      rw [h2, h4, nI_add, nI_1 i, nI_1 j]
      refine ineg (nI_pos (by omega)) ?_
      by_cases hlt : q + j < rn T isLt q
      · refine ineg (nI_ge hlt (by omega)) ⟨t3, vp_in_nI (by omega) (by decide), ?_⟩
        rw [nI_clamp (by omega), t4 _ (by omega), hch]
        refine ite_go (fun c2 => ih k (i + 1) (j + 1) hc' (by omega) h1' h2' (by omega) (fun z => hyes ⟨by have := z.1; omega, ?_⟩) (fun z => hno (fun y => z ⟨by have := y.1; omega, ?_⟩))) (fun c2 => word2 w k (i + 1) hc' (by omega) h1' h2' (hno (fun y => c2 ?_)))
        · rw [decide_eq_true c2]; exact z.2
        · have := y.2
          rw [decide_eq_true c2] at this
          exact this
        · exact of_decide_eq_true (Bool.and_eq_true_iff.mp y.2).1
      · exact ipos (nI_le (by omega) (by omega)) (word2 w k (i + 1) hc' (by omega) h1' h2' (hno (fun y => by have := y.1; omega)))
  have all : ∀ (ws : List (List Int32)) (k i : Nat), (∀ w ∈ ws, ∀ c ∈ w, c ≠ 32) → i + (ws.flatMap (· ++ [32])).length = 165 → (∀ t c, (ws.flatMap (· ++ [32]))[t]? = some c → mm_ch (nI (i + t)) = c) → K (wnF T q ws k) M → jX6_wordNumber_6 d a M K (nI k) 0 (nI i) := by
    intro ws
    induction ws with
    | nil =>
      intro k i h1 h2' h3 hk
      have : i + 0 = 165 := h2'
      obtain rfl : i = 165 := by omega
      exact lX6_wordNumber_6 ha hG (ipos (by decide) hk)
    | cons w ws ih =>
      intro k i h1 h2' h3 hk
      have ef : ((w :: ws).flatMap (· ++ [32])) = w ++ ([32] ++ ws.flatMap (· ++ [32])) := by rw [List.flatMap_cons, List.append_assoc]
      rw [ef] at h2' h3
      rw [List.length_append, List.length_append] at h2'
      have e1 : ([32] : List Int32).length = 1 := rfl
      rw [e1] at h2'
      have hk' : K (if mtc T q w then nI k else wnF T q ws (k + 1)) M := hk
      refine word w k i 0 (h1 w List.mem_cons_self) (by omega) (fun t c hc => h3 t c ?_) (h3 w.length 32 ?_) (by omega) (fun z => ?_) (fun z => ?_)
      · rw [List.getElem?_append_left (List.getElem?_eq_some_iff.mp hc).1]; exact hc
      · rw [List.getElem?_append_right (Nat.le_refl _), Nat.sub_self]; rfl
      · have : mtc T q w = true := by
          unfold mtc
          rw [Bool.and_eq_true_iff]
          exact ⟨decide_eq_true z.1, z.2⟩
        rw [if_pos this] at hk'
        exact hk'
      · have : ¬ mtc T q w = true := fun y => by
          unfold mtc at y
          rw [Bool.and_eq_true_iff] at y
          exact z ⟨of_decide_eq_true y.1, y.2⟩
        rw [if_neg this] at hk'
        refine ih (k + 1) (i + w.length + 1) (fun x hx => h1 x (List.mem_cons_of_mem _ hx)) (by omega) (fun t c hc => ?_) hk'
        have := h3 (w.length + (1 + t)) c (by rw [List.getElem?_append_right (by omega), show w.length + (1 + t) - w.length = t + 1 by omega]; exact hc)
        rw [show i + w.length + 1 + t = i + (w.length + (1 + t)) by omega]
        exact this
  refine all wds 0 0 wds_let (by rw [wds_len]) (fun t c hc => ?_) hK
  have ht : t < 165 := by
    have := (List.getElem?_eq_some_iff.mp hc).1
    rw [wds_len] at this
    exact this
  rw [Nat.zero_add, bytes_ok t ht, List.getD_eq_getElem?_getD, hc]
  rfl
/-! the class's reader at a token -/
def vlF (T : dT) : Nat → Nat → Int32
  | _, 0 => 0
  | q, k + 1 => 10 * vlF T q k + T.1 (q + k) - 48
/-- the value of a number's first four digits -/
def vlu (T : dT) (q : Nat) : Int32 := vlF T q (min 4 (rn T isDg q - q))
def cTk (T : dT) (a q : Nat) (M : mm_M) : Prop := M.1 a 4 = nI q ∧ M.1 a 3 = tkk T q ∧ M.1 a 5 = wdn T q ∧ M.1 a 2 = nI (ten T q) ∧ (tkk T q ≠ 0 → M.1 a 6 = T.1 q) ∧ (tkk T q = 2 → M.1 a 7 = vlu T q)
theorem c_kindOf {d : Nat} {c : Int32} {M : mm_M} {K : Int32 → mm_M → Prop} (hG : mm_G M.2.2) (hK : K (knd c) M) : mm_CI mX6_kindOf d [.int c] M K := by
  have e97 : (97 : Int32).toInt = 97 := rfl
  have e122 : (122 : Int32).toInt = 122 := rfl
  have e48 : (48 : Int32).toInt = 48 := rfl
  have e57 : (57 : Int32).toInt = 57 := rfl
  unfold knd isLt isDg at hK
  refine rX6_kindOf hG ?_
  have low : (¬ (97 ≤ c.toInt ∧ c.toInt ≤ 122)) → (if c < 48 then K 3 M else if 57 < c then K 3 M else K 2 M) := fun h => by
    rw [if_neg (by simpa using h)] at hK
    refine ite_go (fun c1 => ?_) (fun c1 => ite_go (fun c2 => ?_) (fun c2 => ?_))
    · have c1 := i32_lt.mp c1
      rw [if_neg (by simp; omega)] at hK
      exact hK
    · have c2 := i32_lt.mp c2
      rw [if_neg (by simp; omega)] at hK
      exact hK
    · have c1 := mt i32_lt.mpr c1
      have c2 := mt i32_lt.mpr c2
      rw [if_pos (by simp; omega)] at hK
      exact hK
  refine ite_go (fun c1 => low ?_) (fun c1 => ite_go (fun c2 => low ?_) (fun c2 => ?_))
  · have c1 := i32_lt.mp c1; omega
  · have c2 := i32_lt.mp c2; omega
  · have c1 := mt i32_lt.mpr c1
    have c2 := mt i32_lt.mpr c2
    rw [if_pos (by simp; omega)] at hK
    exact hK
theorem c_firstDigits {d a q : Nat} {T : dT} {M : mm_M} {K : Int32 → mm_M → Prop} (ha : a ∈ mm_Rds) (hG : mm_G M.2.2) (hT : cTx T a M) (hq : q ≤ T.2) (h4 : M.1 a 4 = nI q) (h2 : M.1 a 2 = nI (rn T isDg q)) (hK : K (vlu T q) M) : mm_CI mX6_firstDigits d [.ref a] M K := by
  obtain ⟨t1, t2, t3, t4⟩ := hT
  obtain ⟨r1, r2, r3, r4⟩ := rn_p (T := T) (P := isDg) (p := q) hq
  refine rX6_firstDigits ha hG ?_
  have loop : ∀ (k i : Nat), i + k = min 4 (rn T isDg q - q) → jX6_firstDigits_7 d a M K (vlF T q i) (nI (q + i)) := by
    intro k
    induction k with
    | zero =>
      intro i hi
      refine lX6_firstDigits_7 ha hG (ineg (nI_pos (by omega)) ?_)
      have e : i = min 4 (rn T isDg q - q) := by omega
      have hK' : K (vlF T q i) M := by rw [e]; exact hK
      rw [h2, h4]
      by_cases c : rn T isDg q ≤ q + i
      · exact ipos (nI_le c (by omega)) hK'
      · refine ineg (nI_ge (by omega) (by omega)) (ipos ?_ hK')
        show nI q + nI 4 ≤ _
        rw [nI_add]
        exact nI_le (by omega) (by omega)
    | succ k ih =>
      intro i hi
      refine lX6_firstDigits_7 ha hG (ineg (nI_pos (by omega)) ?_)
      rw [h2, h4]
      refine ineg (nI_ge (by omega) (by omega)) (ineg ?_ ⟨t3, vp_in_nI (by omega) (by decide), ?_⟩)
      · show ¬ nI q + nI 4 ≤ _
        rw [nI_add]
        exact nI_ge (by omega) (by omega)
      · rw [nI_clamp (by omega), t4 _ (by omega), nI_1]
        exact ih (i + 1) (by omega)
  rw [h4]
  exact loop (min 4 (rn T isDg q - q)) 0 (by omega)
theorem c_skipBlanks {d a : Nat} {T : dT} {M : mm_M} {K : mm_M → Prop} (ha : a ∈ mm_Rds) (h1a : a ≠ 1) (hT1 : T.2 ≤ 1600) : ∀ (k p : Nat), p + k = T.2 → ∀ (m : mm_M), mm_G m.2.2 → cTx T a m → m.1 a 2 = nI p → offM (fun c j => c = a ∧ j = 2) M m → (∀ m', offM (fun c j => c = a ∧ j = 2) M m' → m'.1 a 2 = nI (rn T isBl p) → K m') → jX6_skipBlanks_5 d a m K (nI p) := by
  have e10 : (10 : Int32).toInt = 10 := rfl
  have e32 : (32 : Int32).toInt = 32 := rfl
  intro k
  induction k with
  | zero =>
    intro p hp m hG hT h2 o hK
    refine lX6_skipBlanks_5 ha hG (ineg (nI_pos (by omega)) ?_)
    rw [hT.1]
    exact ipos (nI_le (by omega) (by omega)) (hK m o (by rw [rn_end (by omega)]; exact h2))
  | succ k ih =>
    intro p hp m hG hT h2 o hK
    obtain ⟨t1, t2, t3, t4⟩ := id hT
    refine lX6_skipBlanks_5 ha hG (ineg (nI_pos (by omega)) ?_)
    rw [t1, nI_clamp (by omega), t4 p (by omega), nI_1]
    have go : isBl (T.1 p) = true → jX6_skipBlanks_5 d a (mm_uI m a 2 (nI (p + 1))) K (nI (p + 1)) := fun z => by
      refine ih (p + 1) (by omega) _ hG ⟨by rw [uI_j (by decide)]; exact t1, t2, t3, fun j hj => by rw [uI_c h1a.symm]; exact t4 j hj⟩ (uI_at _ _ _ _) (offM_tr o (offM_uI ⟨rfl, rfl⟩)) (fun m' o' h' => hK m' o' ?_)
      rw [rn_lt (by omega), if_pos z]; exact h'
    refine ineg (nI_ge (by omega) (by omega)) ⟨t3, vp_in_nI (by omega) (by decide), ite_go (fun c => go ?_) (fun c => ⟨t3, vp_in_nI (by omega) (by decide), ite_go (fun c2 => go ?_) (fun c2 => hK m o ?_)⟩)⟩
    · unfold isBl; exact decide_eq_true (Or.inl (by rw [c]; rfl))
    · unfold isBl; exact decide_eq_true (Or.inr (by rw [c2]; rfl))
    · rw [rn_lt (by omega), if_neg]
      · exact h2
      · unfold isBl
        intro z
        rcases of_decide_eq_true z with z | z
        · exact c (i32_eq.mpr z)
        · exact c2 (i32_eq.mpr z)
