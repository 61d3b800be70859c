/-! ===== feuds that are wanting: the class ===== -/
def firstS (f : Nat → List Nat → Option (List Nat)) : List Nat → Option (List Nat)
  | [] => none
  | p :: l => match f p l with
    | some r => some (p :: r)
    | none => firstS f l
/-- rows of n pairs in their order: the first with which it is so -/
def seekW (ok : Nat → Bool) : Nat → List Nat → Nat → Option (List Nat)
  | 0, _, x => if ok x then some [] else none
  | n + 1, l, x => firstS (fun p l' => seekW ok n l' (x ||| 2 ^ pr (p / 8) (p % 8))) l
theorem firstS_no {f : Nat → List Nat → Option (List Nat)} (h : ∀ p l, f p l = none) : ∀ l, firstS f l = none
  | [] => rfl
  | p :: l => by
    show (match f p l with | some r => some (p :: r) | none => firstS f l) = none
    rw [h p l]
    exact firstS_no h l
theorem seekW_no {ok : Nat → Bool} (h : ∀ x, ok x = false) : ∀ n l x, seekW ok n l x = none
  | 0, l, x => by
    show (if ok x then _ else _) = none
    rw [h x]; rfl
  | n + 1, l, x => firstS_no (fun p l' => seekW_no h n l' _) l
def wantF (ok : Nat → Bool) (l : List Nat) : Nat → Nat → Option (List Nat)
  | 0, _ => none
  | k + 1, n => match seekW ok n l 0 with
    | some r => some r
    | none => wantF ok l k (n + 1)
theorem wantF_no {ok : Nat → Bool} (h : ∀ x, ok x = false) {l : List Nat} : ∀ k n, wantF ok l k n = none
  | 0, _ => rfl
  | k + 1, n => by
    show (match seekW ok n l 0 with | some r => some r | none => wantF ok l k (n + 1)) = none
    rw [seekW_no h]
    exact wantF_no h k (n + 1)
/-- pairs without a feud, both there -/
def freeB (N : dN) (p : Nat) : Bool := decide (p / 8 < p % 8 ∧ p % 8 < 7) && (N.2.1.testBit (p / 8) && N.2.1.testBit (p % 8)) && !(decide (0 < N.2.2.2.2 (p / 8) (p % 8)))
def freeP (N : dN) (i : Nat) : List Nat := (List.range' i (56 - i)).filter (freeB N)
def wantA (U : dU) (N : dN) : Option (List Nat) := wantF (allA U N) (freeP N 0) 4 0
theorem freeP_at {N : dN} {i : Nat} (hi : i < 56) : freeP N i = if freeB N i then i :: freeP N (i + 1) else freeP N (i + 1) := by
  unfold freeP
  rw [show 56 - i = (56 - (i + 1)) + 1 by omega, List.range'_succ, List.filter_cons]
/-! who is whose foe -/
def foX (N : dN) (x e b : Nat) : Bool := decide (e < 7) && decide (b < 7) && (decide (0 < N.2.2.2.2 e b) || (decide (e ≠ b) && x.testBit (pr b e)))
def tgl (sv : Nat → Nat → Bool) (o q e b : Nat) : Bool := xor (sv e b) (decide ((e = o ∧ b = q) ∨ (e = q ∧ b = o)))
theorem tgl_tgl (sv : Nat → Nat → Bool) (o q : Nat) : tgl (tgl sv o q) o q = sv := by
  funext e b
  unfold tgl
  cases sv e b <;> cases decide ((e = o ∧ b = q) ∨ (e = q ∧ b = o)) <;> rfl
theorem foX_tgl {U : dU} {N : dN} {x o q : Nat} (vn : vN U N) (ho : o < 7) (hq : q < 7) (hoq : o ≠ q) (hh : ¬ 0 < N.2.2.2.2 o q) (hx : x.testBit (pr o q) = false) : tgl (foX N x) o q = foX N (x ||| 2 ^ pr o q) := by
  funext e b
  unfold tgl foX
  rw [Nat.testBit_or, Nat.testBit_two_pow]
  by_cases he : e < 7
  · by_cases hb : b < 7
    · by_cases c : (e = o ∧ b = q) ∨ (e = q ∧ b = o)
      · have hh' : ¬ 0 < N.2.2.2.2 e b := by
          rcases c with ⟨rfl, rfl⟩ | ⟨rfl, rfl⟩
          · exact hh
          · rw [vn.2.2.2.2.2.1]; exact hh
        have hp : pr b e = pr o q := by
          rcases c with ⟨rfl, rfl⟩ | ⟨rfl, rfl⟩
          · exact pr_sym b hb e he
          · rfl
        have hne : e ≠ b := by omega
        rw [hp]
        simp [he, hb, hh', hx, hne, c]
      · by_cases hne : e = b
        · subst hne
          simp [c]
        · have hp : ¬ pr o q = pr b e := fun z => by
            rcases pr_inj o ho q hq b hb e he hoq (fun w => hne w.symm) z with ⟨rfl, rfl⟩ | ⟨rfl, rfl⟩
            · exact c (Or.inr ⟨rfl, rfl⟩)
            · exact c (Or.inl ⟨rfl, rfl⟩)
          simp [c, hp]
    · have c : ¬ ((e = o ∧ b = q) ∨ (e = q ∧ b = o)) := by omega
      simp [hb, c]
  · have c : ¬ ((e = o ∧ b = q) ∨ (e = q ∧ b = o)) := by omega
    simp [he, c]
/-- pairs of x are all of two that are there -/
def xT (N : dN) (x : Nat) : Prop := ∀ a b, a < 7 → b < 7 → a ≠ b → x.testBit (pr a b) = true → N.2.1.testBit a = true ∧ N.2.1.testBit b = true
/-- pairs of x stand ahead of i -/
def xO (x i : Nat) : Prop := ∀ p, i ≤ p → p < 56 → p / 8 < p % 8 → p % 8 < 7 → x.testBit (pr (p / 8) (p % 8)) = false
theorem svX_foX {U : dU} {N : dN} {x : Nat} (vn : vN U N) (hth : N.2.1 < 128) (hx : xT N x) (hf : ∀ h, N.2.1.testBit h = true → U.1 ≤ N.2.2.1 h) : svX U N x = foX N x := by
  funext e b
  unfold svX foX
  by_cases c1 : N.2.1.testBit e = true
  · have he : e < 7 := hi_bit hth c1
    by_cases c2 : N.2.1.testBit b = true
    · have hb : b < 7 := hi_bit hth c2
      by_cases hne : e = b
      · subst hne
        have : ¬ 0 < N.2.2.2.2 e e := by rw [vn.2.2.2.2.2.2.1 e]; decide
        simp [this]
      · simp [c1, c2, he, hb, hf b c2, hne]
    · have h1 : ¬ 0 < N.2.2.2.2 e b := fun z => c2 (vn.2.2.2.2.2.2.2 e b z).2
      by_cases hb : b < 7
      · by_cases hne : e = b
        · subst hne; exact absurd c1 c2
        · have h2 : x.testBit (pr b e) = false := Bool.eq_false_iff.mpr (fun z => c2 (hx b e hb he (fun w => hne w.symm) z).1)
          simp [c2, h1, h2]
      · simp [c2, hb]
  · have h1 : ¬ 0 < N.2.2.2.2 e b := fun z => c1 (vn.2.2.2.2.2.2.2 e b z).1
    by_cases he : e < 7
    · by_cases hb : b < 7
      · by_cases hne : e = b
        · subst hne
          simp [c1, h1]
        · have h2 : x.testBit (pr b e) = false := Bool.eq_false_iff.mpr (fun z => c1 (hx b e hb he (fun w => hne w.symm) z).2)
          simp [c1, h1, h2]
      · simp [c1, hb]
    · simp [c1, he]
theorem xO_next {x i : Nat} (hx : xO x i) (hi : i < 56) (h1 : i / 8 < i % 8) (h2 : i % 8 < 7) : xO (x ||| 2 ^ pr (i / 8) (i % 8)) (i + 1) := by
  intro p p1 p2 p3 p4
  rw [Nat.testBit_or, Nat.testBit_two_pow, hx p (by omega) p2 p3 p4]
  have : ¬ pr (i / 8) (i % 8) = pr (p / 8) (p % 8) := fun z => by
    have := pr_inj (i / 8) (by omega) (i % 8) h2 (p / 8) (by omega) (p % 8) p4 (by omega) (by omega) z
    omega
  simp [this]
theorem xO_mono {x i j : Nat} (hx : xO x i) (h : i ≤ j) : xO x j := fun p p1 p2 p3 p4 => hx p (by omega) p2 p3 p4
theorem xT_next {N : dN} {x o q : Nat} (hx : xT N x) (ho : o < 7) (hq : q < 7) (hoq : o ≠ q) (h1 : N.2.1.testBit o = true) (h2 : N.2.1.testBit q = true) : xT N (x ||| 2 ^ pr o q) := by
  intro a b ha hb hab h
  rw [Nat.testBit_or, Nat.testBit_two_pow] at h
  rcases Bool.or_eq_true_iff.mp h with h | h
  · exact hx a b ha hb hab h
  · rcases pr_inj o ho q hq a ha b hb hoq hab (of_decide_eq_true h) with ⟨rfl, rfl⟩ | ⟨rfl, rfl⟩
    · exact ⟨h1, h2⟩
    · exact ⟨h2, h1⟩
/-! the class's row of foes -/
def cFo (sv : Nat → Nat → Bool) (m : mm_M) : Prop := ∀ e, e < 7 → ∃ f, f < 128 ∧ m.1 154 e = nI f ∧ ∀ b, b < 7 → f.testBit b = sv e b
theorem cFo_off {W : Nat → Nat → Prop} {sv : Nat → Nat → Bool} {M m : mm_M} (h : cFo sv M) (ho : offM W M m) (hW : ∀ c j, W c j → ¬ c = 154) : cFo sv m := by
  intro e he
  obtain ⟨f, h1, h2, h3⟩ := h e he
  exact ⟨f, h1, by rw [ho.1 _ _ (fun q => hW _ _ q rfl)]; exact h2, h3⟩
theorem bit_xor : ∀ f, f < 128 → ∀ b, b < 7 → (nI f ^^^ ((1 : Int32) <<< (nI b &&& 31))) = nI (f ^^^ 2 ^ b) ∧ f ^^^ 2 ^ b < 128 := by decide +kernel
theorem c_toggle {d o q : Nat} {sv : Nat → Nat → Bool} {M : mm_M} {K : mm_M → Prop} (hG : mm_G M.2.2) (ho : o < 7) (hq : q < 7) (hoq : o ≠ q) (h : cFo sv M) (hK : ∀ m, offM (fun c _ => c = 154) M m → cFo (tgl sv o q) m → K m) : mm_CV mX10_toggle d [.ref 149, .int (nI o), .int (nI q)] M K := by
  refine rX10_toggle hG ⟨vp_in_nI ho (by decide), vp_in_nI ho (by decide), vp_in_nI hq (by decide), vp_in_nI hq (by decide), ?_⟩
  rw [nI_clamp (n := o) (by omega), nI_clamp (n := q) (by omega), uI_j (fun z => hoq z.symm)]
  obtain ⟨f, f1, f2, f3⟩ := h o ho
  obtain ⟨g, g1, g2, g3⟩ := h q hq
  rw [f2, g2, (bit_xor f f1 q hq).1, (bit_xor g g1 o ho).1]
  refine hK _ (offM_tr (offM_uI rfl) (offM_uI rfl)) (fun e he => ?_)
  by_cases c1 : e = q
  · subst c1
    refine ⟨g ^^^ 2 ^ o, (bit_xor g g1 o ho).2, uI_at _ _ _ _, fun b hb => ?_⟩
    rw [Nat.testBit_xor, Nat.testBit_two_pow, g3 b hb]
    unfold tgl
    congr 1
    rw [decide_eq_decide]
    omega
  · by_cases c2 : e = o
    · subst c2
      refine ⟨f ^^^ 2 ^ q, (bit_xor f f1 q hq).2, by rw [uI_j c1]; exact uI_at _ _ _ _, fun b hb => ?_⟩
      rw [Nat.testBit_xor, Nat.testBit_two_pow, f3 b hb]
      unfold tgl
      congr 1
      rw [decide_eq_decide]
      omega
    · obtain ⟨w, w1, w2, w3⟩ := h e he
      refine ⟨w, w1, by rw [uI_j c1, uI_j c2]; exact w2, fun b hb => ?_⟩
      rw [w3 b hb]
      unfold tgl
      have : ¬ ((e = o ∧ b = q) ∨ (e = q ∧ b = o)) := by omega
      simp [this]
/-! memberAt, allEat -/
def mgo (y0 : Int32) : Nat → Int32 → Int32 → Int32
  | 0, _, _ => -1
  | n + 1, y2, y3 => if ((y0 >>> (y3 &&& 31)) &&& 1) = 0 then mgo y0 n y2 (y3 + 1) else if y2 = 0 then y3 else mgo y0 n (y2 + (-1)) (y3 + 1)
def memR (th k : Nat) : Int32 := if mem th k < 7 then nI (mem th k) else -1
theorem mgo_is : ∀ th, th < 128 → ∀ k, k < 8 → mgo (nI th) 7 (nI k) 0 = memR th k := by decide +kernel
theorem c_memberAt {d th k : Nat} {M : mm_M} {K : Int32 → mm_M → Prop} (hG : mm_G M.2.2) (hth : th < 128) (hk : k < 8) (hK : K (memR th k) M) : mm_CI mX10_memberAt d [.int (nI th), .int (nI k)] M K := by
  rw [← mgo_is th hth k hk] at hK
  have loop : ∀ (n i : Nat) (y2 : Int32), i + n = 7 → K (mgo (nI th) n y2 (nI i)) M → jX10_memberAt_4 d (nI th) (nI k) M K (nI th) y2 (nI i) := by
    intro n
    induction n with
    | zero =>
      intro i y2 hi h
      obtain rfl : i = 7 := by omega
      exact lX10_memberAt_4 hG (ipos (by decide) h)
    | succ n ih =>
      intro i y2 hi h
      refine lX10_memberAt_4 hG (ineg (lt7 (by omega)) ?_)
      unfold mgo at h
      by_cases c : ((nI th >>> (nI i &&& 31)) &&& 1) = 0
      · rw [if_pos c, nI_1] at h
        refine ipos c ?_
        rw [nI_1]
        exact ih (i + 1) y2 (by omega) h
      · rw [if_neg c] at h
        refine ineg c ?_
        by_cases c2 : y2 = 0
        · rw [if_pos c2] at h; exact ipos c2 h
        · rw [if_neg c2, nI_1] at h
          refine ineg c2 ?_
          rw [nI_1]
          exact ih (i + 1) _ (by omega) h
  exact rX10_memberAt hG (loop 7 0 (nI k) (by omega) hK)
def rP (sv : Nat → Nat → Bool) (th t s : Nat) : Prop := s = 0 ∨ ∃ b, b < 7 ∧ s.testBit b = true ∧ s - 2 ^ b < t ∧ rc sv th (pop (s - 2 ^ b)) (s - 2 ^ b) ∧ sv (mem th (pop (s - 2 ^ b))) b = true
theorem rP_rc {sv : Nat → Nat → Bool} {th t s : Nat} (hs : s < 128) (ht : s ≤ t) : rP sv th t s ↔ rc sv th (pop s) s := by
  rw [rc_iff hs]
  unfold rP
  constructor
  · rintro (h | ⟨b, h1, h2, -, h4, h5⟩)
    · exact Or.inl h
    · exact Or.inr ⟨b, h1, h2, h4, h5⟩
  · rintro (h | ⟨b, h1, h2, h4, h5⟩)
    · exact Or.inl h
    · exact Or.inr ⟨b, h1, h2, by have := (sub_b s hs b h1 h2).2.2.2; omega, h4, h5⟩
theorem bit_not : ∀ f, f < 128 → ∀ t, t < 128 → (nI f &&& (nI t ^^^ (-1))) = nI (f &&& (127 ^^^ t)) := by decide +kernel
theorem b127 : ∀ b, b < 7 → (127 : Nat).testBit b = true := by decide +kernel
theorem pop_7 : ∀ t, t < 128 → pop t < 8 := by decide +kernel
theorem c_eat_in {d th t f : Nat} {sv : Nat → Nat → Bool} {x1 : Int32} {M : mm_M} {K : Int32 → mm_M → Prop} (hG : mm_G M.2.2) (ht : t < 127) (hf : f < 128) (hb : ∀ b, b < 7 → (f.testBit b = true ↔ rc sv th (pop t) t ∧ sv (mem th (pop t)) b = true ∧ t.testBit b = false)) : ∀ (k i : Nat) (m : mm_M), i + k = 7 → offM (fun c _ => c = 155) M m → (∀ s, s < 128 → (m.1 155 s ≠ 0 ↔ (rP sv th t s ∨ ∃ b, b < i ∧ f.testBit b = true ∧ s = t ||| 2 ^ b))) → (∀ m', offM (fun c _ => c = 155) M m' → (∀ s, s < 128 → (m'.1 155 s ≠ 0 ↔ rP sv th (t + 1) s)) → jX10_allEat_17 d x1 m' K (nI th) (nI (t + 1))) → jX10_allEat_68 d x1 m K (nI th) (nI t) (nI f) (nI i) := by
  intro k
  induction k with
  | zero =>
    intro i m hi ho h hK
    obtain rfl : i = 7 := by omega
    refine lX10_allEat_68 (by rw [ho.2.2]; exact hG) (ipos (by decide) ?_)
    rw [nI_1]
    refine hK m ho (fun s hs => (h s hs).trans ?_)
    constructor
    · rintro (h | ⟨b, b1, b2, rfl⟩)
      · rcases h with h | ⟨b, h1, h2, h3, h4⟩
        · exact Or.inl h
        · exact Or.inr ⟨b, h1, h2, by omega, h4⟩
      · obtain ⟨r1, r2, r3⟩ := (hb b b1).mp b2
        obtain ⟨a1, a2, a3, a4⟩ := add_b t (by omega) b b1 r3
        exact Or.inr ⟨b, b1, a2, by omega, by rw [a1]; exact r1, by rw [a1]; exact r2⟩
    · rintro (h | ⟨b, h1, h2, h3, h4, h5⟩)
      · exact Or.inl (Or.inl h)
      · by_cases c : s - 2 ^ b = t
        · rw [c] at h4 h5
          obtain ⟨s1, s2, s3, s4⟩ := sub_b s hs b h1 h2
          rw [c] at s2 s3
          exact Or.inr ⟨b, h1, (hb b h1).mpr ⟨h4, h5, s2⟩, s3.symm⟩
        · exact Or.inl (Or.inr ⟨b, h1, h2, by omega, h4, h5⟩)
  | succ k ih =>
    intro i m hi ho h hK
    have hi7 : i < 7 := by omega
    refine lX10_allEat_68 (by rw [ho.2.2]; exact hG) (ineg (lt7 hi7) ?_)
    rw [nI_1]
    by_cases c : ((nI f >>> (nI i &&& 31)) &&& 1) = 0
    · have c' := (bit_at f hf i hi7).mp c
      refine ipos c (ih (i + 1) m (by omega) ho (fun s hs => (h s hs).trans ?_) hK)
      constructor
      · rintro (q | ⟨b, b1, b2⟩)
        · exact Or.inl q
        · exact Or.inr ⟨b, by omega, b2⟩
      · rintro (q | ⟨b, b1, b2, b3⟩)
        · exact Or.inl q
        · by_cases z : b = i
          · subst z; rw [c'] at b2; cases b2
          · exact Or.inr ⟨b, by omega, b2, b3⟩
    · have c' : f.testBit i = true := by simpa using mt (bit_at f hf i hi7).mpr c
      obtain ⟨o1, o2⟩ := bit_or t (by omega) i hi7
      refine ineg c ?_
      rw [o1, nI_clamp (by omega)]
      refine ⟨vp_in_nI o2 (by decide), ih (i + 1) _ (by omega) (offM_tr ho (offM_uI rfl)) (fun s hs => ?_) hK⟩
      by_cases z : s = t ||| 2 ^ i
      · subst z
        rw [uI_at]
        exact ⟨fun _ => Or.inr ⟨i, by omega, c', rfl⟩, fun _ => by decide⟩
      · rw [uI_j z, h s hs]
        constructor
        · rintro (q | ⟨b, b1, b2⟩)
          · exact Or.inl q
          · exact Or.inr ⟨b, by omega, b2⟩
        · rintro (q | ⟨b, b1, b2, b3⟩)
          · exact Or.inl q
          · by_cases z2 : b = i
            · subst z2; exact absurd b3 z
            · exact Or.inr ⟨b, by omega, b2, b3⟩
theorem c_allEat {d th : Nat} {sv : Nat → Nat → Bool} {M : mm_M} {K : Int32 → mm_M → Prop} (hG : mm_G M.2.2) (hth : th < 128) (hsv : ∀ e b, sv e b = true → e < 7) (hF : cFo sv M) (hK : ∀ m (z : Int32), offM (fun c _ => c = 155) M m → (z = 1 ∧ rc sv th (pop th) th) ∨ (z = 0 ∧ ¬ rc sv th (pop th) th) → K z m) : mm_CI mX10_allEat (d + 1) [.ref 149, .int (nI th)] M K := by
  have loop : ∀ (k t : Nat) (m : mm_M), t + k = 127 → offM (fun c _ => c = 155) M m → (∀ s, s < 128 → (m.1 155 s ≠ 0 ↔ rP sv th t s)) → jX10_allEat_17 d (nI th) m K (nI th) (nI t) := by
    intro k
    induction k with
    | zero =>
      intro t m ht ho h
      obtain rfl : t = 127 := by omega
      have hGm : mm_G m.2.2 := by rw [ho.2.2]; exact hG
      refine lX10_allEat_17 hGm (ipos (by decide) (ineg (nI_pos (by omega)) (ineg (nI_ge (b := 128) hth (by decide)) ?_)))
      rw [nI_clamp (by omega)]
      refine ⟨vp_in_nI hth (by decide), ?_⟩
      have hr := (h th hth).trans (rP_rc (sv := sv) hth (by omega))
      by_cases c : m.1 155 th = 0
      · exact ipos c (hK m 0 ho (Or.inr ⟨rfl, fun z => hr.mpr z c⟩))
      · exact ineg c (hK m 1 ho (Or.inl ⟨rfl, hr.mp c⟩))
    | succ k ih =>
      intro t m ht ho h
      have hGm : mm_G m.2.2 := by rw [ho.2.2]; exact hG
      refine lX10_allEat_17 hGm (ineg (nI_ge (b := 127) (by omega) (by decide)) ?_)
      rw [nI_clamp (by omega)]
      refine ⟨vp_in_nI (by omega) (by decide), ?_⟩
      have hr := (h t (by omega)).trans (rP_rc (sv := sv) (by omega) (Nat.le_refl t))
      have go : ∀ f, f < 128 → (∀ b, b < 7 → (f.testBit b = true ↔ rc sv th (pop t) t ∧ sv (mem th (pop t)) b = true ∧ t.testBit b = false)) → jX10_allEat_68 d (nI th) m K (nI th) (nI t) (nI f) 0 := fun f hf hb =>
        c_eat_in (M := M) hG (by omega) hf hb 7 0 m (by omega) ho (fun s hs => (h s hs).trans ⟨fun q => Or.inl q, fun q => q.elim (fun q => q) (fun ⟨b, b1, _⟩ => by omega)⟩) (fun m' o' h' => ih (t + 1) m' (by omega) o' h')
      have none0 : ¬ (rc sv th (pop t) t ∧ mem th (pop t) < 7) → jX10_allEat_44 d (nI th) m K (nI th) (nI t) (-1) := fun hno =>
        lX10_allEat_44 hGm (ineg (by decide) (go 0 (by decide) (fun b hb => by
          rw [Nat.zero_testBit]
          exact ⟨fun q => (by cases q), fun ⟨q1, q2, _⟩ => absurd ⟨q1, hsv _ _ q2⟩ hno⟩)))
      by_cases c : m.1 155 t = 0
      · exact ipos c (none0 (fun z => hr.mpr z.1 c))
      · refine ineg c (c_bitCount hGm (by omega) (c_memberAt hGm hth (pop_7 t (by omega)) ?_))
        unfold memR
        by_cases c2 : mem th (pop t) < 7
        · rw [if_pos c2]
          refine lX10_allEat_44 hGm (ipos (nI_pos' (by omega)) ?_)
          rw [nI_clamp (by omega)]
          obtain ⟨f, f1, f2, f3⟩ := hF _ c2
          rw [ho.1 _ _ (by omega), f2, bit_not f f1 t (by omega)]
          refine ⟨vp_in_nI c2 (by decide), go _ (Nat.lt_of_le_of_lt Nat.and_le_left f1) (fun b hb => ?_)⟩
          rw [Nat.testBit_and, Nat.testBit_xor, b127 b hb, f3 b hb]
          have := hr.mp c
          cases sv (mem th (pop t)) b <;> cases t.testBit b <;> simp [this]
        · rw [if_neg c2]
          exact none0 (fun z => c2 z.2)
  refine rX10_allEat hG (c_fill (r0 := 155) (n0 := 128) (by decide +kernel) (by decide) hG (fun m1 o1 h1 => ?_))
  have t0 : (0 : Int32).toNatClampNeg = 0 := rfl
  rw [t0]
  refine loop 127 0 _ (by omega) (offM_tr o1 (offM_uI rfl)) (fun s hs => ?_)
  by_cases c : s = 0
  · subst c
    rw [uI_at]
    exact ⟨fun _ => Or.inl rfl, fun _ => by decide⟩
  · rw [uI_j c, h1 s hs]
    exact ⟨fun q => absurd rfl q, fun q => q.elim (fun q => absurd q c) (fun ⟨b, _, _, q, _⟩ => by omega)⟩
