/-! ===== when all eat: from the last house on, and by sets of bakers ===== -/
def cntL (th : Nat) : Nat → Nat
  | 0 => 0
  | k + 1 => cntL th k + (if th.testBit (6 - k) then 1 else 0)
def fullA (sv : Nat → Nat → Bool) (th : Nat) : Nat → Nat → Prop
  | 0, _ => True
  | k + 1, busy => if th.testBit (6 - k) then ∃ b, b < 7 ∧ sv (6 - k) b = true ∧ busy.testBit b = false ∧ fullA sv th k (busy ||| 2 ^ b) else fullA sv th k busy
theorem tbS_ge {sv : Nat → Nat → Bool} {hc : Nat → Nat → Nat} {e busy : Nat} {prev : Nat → Nat × Nat} {acc : Nat × Nat} {b : Nat} : acc.1 ≤ (tbS sv hc e busy prev acc b).1 ∧ ((sv e b && !(busy.testBit b)) = true → (tbC hc e busy prev b).1 ≤ (tbS sv hc e busy prev acc b).1) := by
  unfold tbS
  by_cases c : (sv e b && !(busy.testBit b)) = true
  · rw [if_pos c]
    by_cases c2 : better (tbC hc e busy prev b) acc = true
    · rw [if_pos c2]
      unfold better at c2
      rw [decide_eq_true_iff] at c2
      exact ⟨by omega, fun _ => Nat.le_refl _⟩
    · rw [if_neg c2]
      unfold better at c2
      rw [decide_eq_true_iff] at c2
      exact ⟨Nat.le_refl _, fun _ => by omega⟩
  · rw [if_neg c]; exact ⟨Nat.le_refl _, fun h => absurd h c⟩
theorem tbF_ge {sv : Nat → Nat → Bool} {hc : Nat → Nat → Nat} {e busy : Nat} {prev : Nat → Nat × Nat} : ∀ (l : List Nat) (acc : Nat × Nat), acc.1 ≤ (l.foldl (tbS sv hc e busy prev) acc).1 ∧ ∀ b ∈ l, (sv e b && !(busy.testBit b)) = true → (tbC hc e busy prev b).1 ≤ (l.foldl (tbS sv hc e busy prev) acc).1
  | [], acc => ⟨Nat.le_refl _, fun b h => by cases h⟩
  | i :: l, acc => by
    have ih := tbF_ge (sv := sv) (hc := hc) (e := e) (busy := busy) (prev := prev) l (tbS sv hc e busy prev acc i)
    have st := tbS_ge (sv := sv) (hc := hc) (e := e) (busy := busy) (prev := prev) (acc := acc) (b := i)
    rw [List.foldl_cons]
    refine ⟨Nat.le_trans st.1 ih.1, fun b hb c => ?_⟩
    rcases List.mem_cons.mp hb with rfl | hb
    · exact Nat.le_trans (st.2 c) ih.1
    · exact ih.2 b hb c
theorem tb_full {sv : Nat → Nat → Bool} {hc : Nat → Nat → Nat} {th : Nat} (hsv : ∀ e b, sv e b = true → th.testBit e = true) : ∀ (k busy : Nat), (tb sv hc k busy).1 ≤ cntL th k ∧ ((tb sv hc k busy).1 = cntL th k ↔ fullA sv th k busy)
  | 0, busy => ⟨Nat.le_refl _, ⟨fun _ => trivial, fun _ => rfl⟩⟩
  | k + 1, busy => by
    have ih := tb_full (hc := hc) hsv k
    by_cases ct : th.testBit (6 - k) = true
    · have hcnt : cntL th (k + 1) = cntL th k + 1 := by show cntL th k + (if th.testBit (6 - k) then 1 else 0) = _; rw [if_pos ct]
      have hfull : fullA sv th (k + 1) busy ↔ ∃ b, b < 7 ∧ sv (6 - k) b = true ∧ busy.testBit b = false ∧ fullA sv th k (busy ||| 2 ^ b) := by
        show (if th.testBit (6 - k) then _ else _) ↔ _
        rw [if_pos ct]
      have hle : (tb sv hc (k + 1) busy).1 ≤ cntL th k + 1 := by
        refine fold_v (P := fun q : Nat × Nat => q.1 ≤ cntL th k + 1) (fun x i h => ?_) _ _ (by have := (ih busy).1; omega)
        unfold tbS
        by_cases c : (sv (6 - k) i && !(busy.testBit i)) = true
        · rw [if_pos c]
          by_cases c2 : better (tbC hc (6 - k) busy (tb sv hc k) i) x = true
          · rw [if_pos c2]
            have := (ih (busy ||| 2 ^ i)).1
            show 1 + (tb sv hc k (busy ||| 2 ^ i)).1 ≤ _
            omega
          · rw [if_neg c2]; exact h
        · rw [if_neg c]; exact h
      rw [hcnt, hfull]
      refine ⟨hle, fun h => ?_, fun ⟨b, hb, h1, h2, h3⟩ => ?_⟩
      · rcases fold_from (f := tbS sv hc (6 - k) busy (tb sv hc k)) (List.range' 0 7) (tb sv hc k busy) with q | ⟨b, hb, y, q1, q2⟩
        · have q : tb sv hc (k + 1) busy = tb sv hc k busy := q
          rw [q] at h
          have := (ih busy).1
          omega
        · have q1 : tb sv hc (k + 1) busy = tbS sv hc (6 - k) busy (tb sv hc k) y b := q1
          unfold tbS at q1 q2
          by_cases c : (sv (6 - k) b && !(busy.testBit b)) = true
          · rw [if_pos c] at q1 q2
            by_cases c2 : better (tbC hc (6 - k) busy (tb sv hc k) b) y = true
            · rw [if_pos c2] at q1
              rw [q1] at h
              have h : 1 + (tb sv hc k (busy ||| 2 ^ b)).1 = cntL th k + 1 := h
              obtain ⟨c3, c4⟩ := Bool.and_eq_true_iff.mp c
              exact ⟨b, by have := List.mem_range'_1.mp hb; omega, c3, by simpa using c4, (ih _).2.mp (by omega)⟩
            · rw [if_neg c2] at q2; exact absurd rfl q2
          · rw [if_neg c] at q2; exact absurd rfl q2
      · have hge := (tbF_ge (sv := sv) (hc := hc) (e := 6 - k) (busy := busy) (prev := tb sv hc k) (List.range' 0 7) (tb sv hc k busy)).2 b (List.mem_range'_1.mpr ⟨by omega, by omega⟩) (by rw [h1, h2]; rfl)
        have hge : 1 + (tb sv hc k (busy ||| 2 ^ b)).1 ≤ (tb sv hc (k + 1) busy).1 := hge
        have := (ih (busy ||| 2 ^ b)).2.mpr h3
        omega
    · have hcnt : cntL th (k + 1) = cntL th k := by show cntL th k + (if th.testBit (6 - k) then 1 else 0) = _; rw [if_neg ct]; rfl
      have hfull : fullA sv th (k + 1) busy ↔ fullA sv th k busy := by
        show (if th.testBit (6 - k) then _ else _) ↔ _
        rw [if_neg ct]
      have ht : tb sv hc (k + 1) busy = tb sv hc k busy := by
        refine fold_id _ (fun i _ => ?_)
        unfold tbS
        rw [if_neg]
        intro q
        exact ct (hsv _ _ (Bool.and_eq_true_iff.mp q).1)
      rw [hcnt, hfull, ht]
      exact ih busy
theorem cnt7 : ∀ th, th < 128 → cntL th 7 = pop th := by decide +kernel
/-! by sets of bakers -/
def mem (th j : Nat) : Nat := ((List.range' 0 7).filter th.testBit).getD j 7
def rc (sv : Nat → Nat → Bool) (th : Nat) : Nat → Nat → Prop
  | 0, s => s = 0
  | n + 1, s => s < 128 ∧ ∃ b, b < 7 ∧ s.testBit b = true ∧ rc sv th n (s - 2 ^ b) ∧ sv (mem th (pop (s - 2 ^ b))) b = true
theorem sub_b : ∀ s, s < 128 → ∀ b, b < 7 → s.testBit b = true → pop s = pop (s - 2 ^ b) + 1 ∧ (s - 2 ^ b).testBit b = false ∧ (s - 2 ^ b) ||| 2 ^ b = s ∧ s - 2 ^ b < s := by decide +kernel
theorem add_b : ∀ t, t < 128 → ∀ b, b < 7 → t.testBit b = false → (t ||| 2 ^ b) - 2 ^ b = t ∧ (t ||| 2 ^ b).testBit b = true ∧ pop (t ||| 2 ^ b) = pop t + 1 ∧ t ||| 2 ^ b < 128 := by decide +kernel
theorem mem_at : ∀ th, th < 128 → ∀ i, i < 7 → th.testBit i = true → mem th (pop (th % 2 ^ i)) = i ∧ pop (th % 2 ^ (i + 1)) = pop (th % 2 ^ i) + 1 := by decide +kernel
theorem mem_no : ∀ th, th < 128 → ∀ i, i < 7 → th.testBit i = false → pop (th % 2 ^ (i + 1)) = pop (th % 2 ^ i) := by decide +kernel
theorem rc_lt {sv : Nat → Nat → Bool} {th : Nat} : ∀ (n s : Nat), rc sv th n s → s < 128 ∧ pop s = n
  | 0, s, h => by
    have h : s = 0 := h
    subst h; decide
  | n + 1, s, ⟨h1, b, h2, h3, h4, h5⟩ => by
    have ih := rc_lt n _ h4
    exact ⟨h1, by rw [(sub_b s h1 b h2 h3).1, ih.2]⟩
theorem full_fwd {sv : Nat → Nat → Bool} {th : Nat} (hth : th < 128) : ∀ i, i ≤ 7 → (fullA sv th 7 0 ↔ ∃ s, rc sv th (pop (th % 2 ^ i)) s ∧ fullA sv th (7 - i) s)
  | 0, _ => ⟨fun h => ⟨0, by show rc sv th (pop (th % 1)) 0; rw [Nat.mod_one]; rfl, h⟩, fun ⟨s, h1, h2⟩ => by
      have h1 : rc sv th (pop (th % 1)) s := h1
      rw [Nat.mod_one] at h1
      have h1 : s = 0 := h1
      subst h1; exact h2⟩
  | i + 1, hi => by
    rw [full_fwd hth i (by omega)]
    have hk : 7 - i = (7 - (i + 1)) + 1 := by omega
    have he : 6 - (7 - (i + 1)) = i := by omega
    rw [hk]
    by_cases ct : th.testBit i = true
    · obtain ⟨m1, m2⟩ := mem_at th hth i (by omega) ct
      have hfull : ∀ s, fullA sv th (7 - (i + 1) + 1) s ↔ ∃ b, b < 7 ∧ sv i b = true ∧ s.testBit b = false ∧ fullA sv th (7 - (i + 1)) (s ||| 2 ^ b) := fun s => by
        show (if th.testBit (6 - (7 - (i + 1))) then _ else _) ↔ _
        rw [he, if_pos ct]
      rw [m2]
      constructor
      · rintro ⟨s, h1, h2⟩
        obtain ⟨b, b1, b2, b3, b4⟩ := (hfull s).mp h2
        obtain ⟨r1, r2⟩ := rc_lt _ _ h1
        obtain ⟨a1, a2, a3, a4⟩ := add_b s r1 b b1 b3
        refine ⟨s ||| 2 ^ b, ⟨a4, b, b1, a2, by rw [a1]; exact h1, by rw [a1, r2, m1]; exact b2⟩, b4⟩
      · rintro ⟨s, ⟨h1, b, b1, b2, b3, b4⟩, h2⟩
        obtain ⟨r1, r2⟩ := rc_lt _ _ b3
        obtain ⟨s1, s2, s3, s4⟩ := sub_b s h1 b b1 b2
        refine ⟨s - 2 ^ b, b3, (hfull _).mpr ⟨b, b1, by rw [r2, m1] at b4; exact b4, s2, by rw [s3]; exact h2⟩⟩
    · have ct' : th.testBit i = false := by simpa using ct
      have hfull : ∀ s, fullA sv th (7 - (i + 1) + 1) s ↔ fullA sv th (7 - (i + 1)) s := fun s => by
        show (if th.testBit (6 - (7 - (i + 1))) then _ else _) ↔ _
        rw [he, if_neg ct]
      rw [mem_no th hth i (by omega) ct']
      exact ⟨fun ⟨s, h1, h2⟩ => ⟨s, h1, (hfull s).mp h2⟩, fun ⟨s, h1, h2⟩ => ⟨s, h1, (hfull s).mpr h2⟩⟩
theorem sub_o : ∀ s, s < 128 → ∀ b, b < 7 → ∀ j, j < 7 → (s.testBit b = true ∧ j ≠ b ∧ s.testBit j = true) → (s - 2 ^ b).testBit j = true := by decide +kernel
theorem hi_bit {s j : Nat} (h : s < 128) (hj : s.testBit j = true) : j < 7 := by
  apply Decidable.byContradiction
  intro q
  have := Nat.testBit_lt_two_pow (i := j) (x := s) (Nat.lt_of_lt_of_le h (Nat.pow_le_pow_right (by omega) (by omega) : 2 ^ 7 ≤ 2 ^ j))
  rw [this] at hj; cases hj
theorem rc_sv {sv : Nat → Nat → Bool} {th : Nat} : ∀ (n s : Nat), rc sv th n s → ∀ j, s.testBit j = true → ∃ e, sv e j = true
  | 0, s, h, j, hj => by
    have h : s = 0 := h
    subst h; rw [Nat.zero_testBit] at hj; cases hj
  | n + 1, s, ⟨h1, b, h2, h3, h4, h5⟩, j, hj => by
    by_cases c : j = b
    · subst c; exact ⟨_, h5⟩
    · exact rc_sv n _ h4 j (sub_o s h1 b h2 j (hi_bit h1 hj) ⟨h3, c, hj⟩)
set_option maxRecDepth 100000 in
theorem pop_sub : ∀ s, s < 128 → ∀ th, th < 128 → s &&& th = s → pop s = pop th → s = th := by decide +kernel
theorem full_rc {sv : Nat → Nat → Bool} {th : Nat} (hth : th < 128) (hsv : ∀ e b, sv e b = true → th.testBit b = true) : fullA sv th 7 0 ↔ rc sv th (pop th) th := by
  rw [full_fwd hth 7 (Nat.le_refl _), Nat.mod_eq_of_lt hth]
  refine ⟨fun ⟨s, h1, _⟩ => ?_, fun h => ⟨th, h, trivial⟩⟩
  obtain ⟨r1, r2⟩ := rc_lt _ _ h1
  have : s = th := by
    refine pop_sub s r1 th hth ?_ r2
    apply Nat.eq_of_testBit_eq
    intro j
    rw [Nat.testBit_and]
    cases hj : s.testBit j with
    | false => rfl
    | true =>
      obtain ⟨e, he⟩ := rc_sv _ _ h1 j hj
      rw [hsv e j he]; rfl
  rw [this] at h1; exact h1
theorem rc_iff {sv : Nat → Nat → Bool} {th s : Nat} (hs : s < 128) : rc sv th (pop s) s ↔ s = 0 ∨ ∃ b, b < 7 ∧ s.testBit b = true ∧ rc sv th (pop (s - 2 ^ b)) (s - 2 ^ b) ∧ sv (mem th (pop (s - 2 ^ b))) b = true := by
  constructor
  · intro h
    by_cases c : s = 0
    · exact Or.inl c
    · right
      cases hp : pop s with
      | zero =>
        rw [hp] at h
        exact absurd (show s = 0 from h) c
      | succ n =>
        rw [hp] at h
        obtain ⟨h1, b, h2, h3, h4, h5⟩ := h
        have := (rc_lt _ _ h4).2
        exact ⟨b, h2, h3, by rw [this]; exact h4, h5⟩
  · rintro (rfl | ⟨b, h2, h3, h4, h5⟩)
    · exact rfl
    · rw [(sub_b s hs b h2 h3).1]
      exact ⟨hs, b, h2, h3, h4, h5⟩
theorem rc_ext {sv sv' : Nat → Nat → Bool} {th : Nat} (h : ∀ e b, b < 7 → sv e b = sv' e b) : ∀ n s, rc sv th n s ↔ rc sv' th n s
  | 0, s => Iff.rfl
  | n + 1, s => by
    have ih := rc_ext (th := th) h n
    constructor
    · rintro ⟨h1, b, h2, h3, h4, h5⟩
      exact ⟨h1, b, h2, h3, (ih _).mp h4, by rw [← h _ b h2]; exact h5⟩
    · rintro ⟨h1, b, h2, h3, h4, h5⟩
      exact ⟨h1, b, h2, h3, (ih _).mpr h4, by rw [h _ b h2]; exact h5⟩
/-- all that are there eat, by the table -/
def allA (U : dU) (N : dN) (x : Nat) : Bool := decide ((tb (svX U N x) (hcN N) 7 0).1 = pop N.2.1)
theorem allA_rc {U : dU} {N : dN} {x : Nat} (hth : N.2.1 < 128) : allA U N x = true ↔ rc (svX U N x) N.2.1 (pop N.2.1) N.2.1 := by
  unfold allA
  have hsv : ∀ e b, svX U N x e b = true → N.2.1.testBit e = true ∧ N.2.1.testBit b = true := fun e b h => by
    unfold svX at h
    simp only [Bool.and_eq_true] at h
    exact ⟨h.1.1.1.1, h.1.1.1.2⟩
  rw [decide_eq_true_iff, ← cnt7 _ hth, (tb_full (fun e b h => (hsv e b h).1) 7 0).2, full_rc hth (fun e b h => (hsv e b h).2), cnt7 _ hth]
/-- one that is there and has no flour for a loaf: not all eat -/
theorem allA_no {U : dU} {N : dN} {x h : Nat} (hth : N.2.1 < 128) (ht : N.2.1.testBit h = true) (hf : ¬ U.1 ≤ N.2.2.1 h) : allA U N x = false := by
  apply Bool.eq_false_iff.mpr
  intro q
  obtain ⟨e, he⟩ := rc_sv _ _ ((allA_rc hth).mp q) h ht
  unfold svX at he
  simp only [Bool.and_eq_true, decide_eq_true_eq] at he
  exact hf he.1.1.2
