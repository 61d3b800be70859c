/-! ===== what holds between calls ===== -/
/-- two memories agree but on the places W: numbers and references -/
def offA (W : Nat → Nat → Prop) (M m : mm_M) : Prop := (∀ c j, ¬ W c j → m.1 c j = M.1 c j) ∧ (∀ c j, ¬ W c j → m.2.1 c j = M.2.1 c j) ∧ (∀ c j, ¬ W c j → m.2.2 c j = M.2.2 c j)
theorem offA_M {W : Nat → Nat → Prop} {M m : mm_M} (h : offM W M m) : offA W M m := ⟨h.1, h.2.1, fun c j _ => by rw [h.2.2]⟩
theorem offA_rf {W : Nat → Nat → Prop} {M : mm_M} : offA W M M := ⟨fun _ _ _ => rfl, fun _ _ _ => rfl, fun _ _ _ => rfl⟩
theorem offA_tr {W : Nat → Nat → Prop} {M m m' : mm_M} (h : offA W M m) (h' : offA W m m') : offA W M m' := ⟨fun c j q => (h'.1 c j q).trans (h.1 c j q), fun c j q => (h'.2.1 c j q).trans (h.2.1 c j q), fun c j q => (h'.2.2 c j q).trans (h.2.2 c j q)⟩
theorem offA_mono {W W' : Nat → Nat → Prop} {M m : mm_M} (h : offA W M m) (hW : ∀ c j, W c j → W' c j) : offA W' M m := ⟨fun c j q => h.1 c j (fun z => q (hW c j z)), fun c j q => h.2.1 c j (fun z => q (hW c j z)), fun c j q => h.2.2 c j (fun z => q (hW c j z))⟩
/-- tape, its length, refusals, fault, its place, seed, picture, its length -/
abbrev dIO : Type := (Nat → Int32) × Nat × (Nat → Int32) × Int32 × Int32 × Nat × (Nat → Int32) × Nat
/-- is there a duchy, its rules, names' letters, famine, the cell where the class has them -/
abbrev dRU : Type := Bool × dU × (Nat → Nat → Int32) × Nat × Nat
/-- the moment, what is kept, the moments ahead of the latest acts -/
abbrev dST : Type := dN × List dQ × List (dN × List dQ)
/-- how many rows were seen, and what -/
abbrev dSE : Type := Nat × (Nat → Int32)
def cIO (a : dIO) (M : mm_M) : Prop := (∀ j, j < 1600 → M.1 1 j = a.1 j) ∧ M.1 0 1 = nI a.2.1 ∧ (∀ j, j < 6 → M.1 2 j = a.2.2.1 j) ∧ M.1 0 3 = a.2.2.2.1 ∧ M.1 0 4 = a.2.2.2.2.1 ∧ M.1 0 5 = nI a.2.2.2.2.2.1 ∧ (∀ j, j < a.2.2.2.2.2.2.2 → M.1 3 j = a.2.2.2.2.2.2.1 j) ∧ M.1 0 7 = nI a.2.2.2.2.2.2.2
def mIO (a : dIO) (M : mm_M) : Prop := (∀ j, j < 1600 → M.1 165 j = a.1 j) ∧ M.1 164 1 = nI a.2.1 ∧ (∀ j, j < 6 → M.1 166 j = a.2.2.1 j) ∧ M.1 164 7 = a.2.2.2.1 ∧ M.1 164 8 = a.2.2.2.2.1 ∧ M.2.1 164 81 = lN a.2.2.2.2.2.1 ∧ (∀ j, j < a.2.2.2.2.2.2.2 → M.1 242 j = a.2.2.2.2.2.2.1 j) ∧ M.1 164 115 = nI a.2.2.2.2.2.2.2
def vIO (a : dIO) : Prop := a.2.1 ≤ 1600 ∧ (∀ j, inI 0 255 (a.1 j)) ∧ a.2.2.2.2.2.1 < 2 ^ 31 ∧ a.2.2.2.2.2.2.2 ≤ 45
/-- the other Rules -/
def r2 (r : Nat) : Nat := 30 - r
def cRU (a : dRU) (M : mm_M) : Prop := M.2.2 0 11 = some a.2.2.2.2 ∧ M.2.2 21 0 = some a.2.2.2.2 ∧ M.2.2 4 1 = some (r2 a.2.2.2.2) ∧ a.2.2.2.2 ∈ mm_Rls ∧ (∃ s, s ≤ 61 ∧ M.1 a.2.2.2.2 0 = nI s ∧ (0 < s ↔ a.1 = true)) ∧ M.1 a.2.2.2.2 1 = a.2.1.1 ∧ M.1 a.2.2.2.2 2 = nI a.2.1.2.1 ∧ M.1 a.2.2.2.2 3 = nI a.2.2.2.1 ∧ (∀ h k, h < a.2.1.2.1 → k < 6 → M.1 (a.2.2.2.2 + 1) (6 * h + k) = a.2.2.1 h k) ∧ (∀ h, h < 7 → M.1 (a.2.2.2.2 + 3) h = a.2.1.2.2.1 h) ∧ (a.1 = true → cU a.2.2.2.2 a.2.1 M)
/-- a name as the reference's number -/
def nameN (f : Nat → Int32) (n : Nat) : Nat := match n with
  | 0 => 0
  | n + 1 => 27 * nameN f n + (f n).toInt.toNat
/-- letters, then nothing -/
def vName (f : Nat → Int32) : Prop := ∃ n, 1 ≤ n ∧ n ≤ 6 ∧ (∀ k, k < n → inI 1 26 (f k)) ∧ ∀ k, n ≤ k → f k = 0
def mRU (a : dRU) (M : mm_M) : Prop := M.1 164 48 = (if a.1 then 1 else 0) ∧ mU a.2.1 M ∧ M.1 191 3 = nI a.2.2.2.1 ∧ ∀ h, h < a.2.1.2.1 → ∃ n, 1 ≤ n ∧ n ≤ 6 ∧ (∀ k, k < n → inI 1 26 (a.2.2.1 h k)) ∧ (∀ k, n ≤ k → a.2.2.1 h k = 0) ∧ M.2.1 192 (7 + h) = lN (nameN (a.2.2.1 h) n)
def vRU (a : dRU) : Prop := vU a.2.1 ∧ a.2.2.2.1 ≤ 100 ∧ (a.1 = false → a.2.1.2.1 = 0) ∧ (a.1 = true → 1 ≤ a.2.1.1.toInt)
def stc (i : Nat) : Nat := 49 + 5 * i
def cST (B : Nat) (a : dST) (M : mm_M) : Prop := cN 37 a.1 M ∧ cK 37 a.2.1 B M ∧ a.2.2.length ≤ 20 ∧ M.1 47 2 = nI a.2.2.length ∧ ∃ p, p < 20 ∧ M.1 47 1 = nI p ∧ ∀ k s, a.2.2[k]? = some s → cN (stc ((p + 19 - k) % 20)) s.1 M ∧ cK (stc ((p + 19 - k) % 20)) s.2 B M
/-- the memory whose moment is the i-th one kept for undo -/
def sl (M : mm_M) (i : Nat) : mm_M := (fun _ j => M.1 216 (204 * i + j), M.2)
def mST (a : dST) (M : mm_M) : Prop := mN a.1 M ∧ mK a.2.1 M ∧ M.1 164 79 = nI a.2.2.length ∧ ∃ p, p < 20 ∧ M.1 164 80 = nI p ∧ ∀ k s, a.2.2[k]? = some s → mN s.1 (sl M ((p + 20 - k) % 20)) ∧ mK s.2 (sl M ((p + 20 - k) % 20))
def vL (L : List dQ) : Prop := ∀ q ∈ L, inI 0 999 q.1 ∧ q.2.1 < 7 ∧ q.2.2.1 < 7 ∧ inI 0 99 q.2.2.2
def vST (U : dU) (a : dST) : Prop := (vN U a.1 ∧ inI 0 999 a.1.1 ∧ vL a.2.1) ∧ ∀ s ∈ a.2.2, vN U s.1 ∧ inI 0 999 s.1.1 ∧ vL s.2
def cSE (a : dSE) (M : mm_M) : Prop := M.1 159 0 = nI a.1 ∧ ∀ j, j < 3 * a.1 → M.1 160 j = a.2 j
def mSE (a : dSE) (M : mm_M) : Prop := M.1 164 72 = nI a.1 ∧ ∀ j, j < 3 * a.1 → M.1 212 j = a.2 j
def vSE (hs : Nat) (a : dSE) : Prop := a.1 ≤ 16 ∧ ∀ k, k < a.1 → inI 0 30 (a.2 (3 * k)) ∧ (0 ≤ (a.2 (3 * k + 1)).toInt ∧ (a.2 (3 * k + 1)).toInt < hs) ∧ (inI 0 99 (a.2 (3 * k + 2)) ∨ a.2 (3 * k + 2) = 255)
def mID (M : mm_M) : Prop := M.1 164 57 = 0 ∧ M.1 164 59 = nI 0 ∧ M.1 164 66 = 0
abbrev dA : Type := dIO × dRU × dST × dSE × Nat
/-- all but what the class has at hand from earlier searches -/
def I0 (u : Nat) (a : dA) (M : mm_M) : Prop := (cIO a.1 M ∧ mIO a.1 M ∧ vIO a.1) ∧ (cRU a.2.1 M ∧ mRU a.2.1 M ∧ vRU a.2.1) ∧ (cST (700 * u) a.2.2.1 M ∧ mST a.2.2.1 M ∧ vST a.2.1.2.1 a.2.2.1) ∧ (cSE a.2.2.2.1 M ∧ mSE a.2.2.2.1 M ∧ vSE a.2.1.2.1.2.1 a.2.2.2.1) ∧ (M.1 0 18 = nI a.2.2.2.2 ∧ a.2.2.2.2 ≤ u) ∧ mID M
/-! none of it changes by changes elsewhere -/
theorem cIO_off {W : Nat → Nat → Prop} {a : dIO} {M m : mm_M} (h : cIO a M) (ho : offA W M m) (hW : ∀ c j, W c j → ¬ (c = 1 ∨ c = 2 ∨ c = 3 ∨ (c = 0 ∧ (j = 1 ∨ j = 3 ∨ j = 4 ∨ j = 5 ∨ j = 7)))) : cIO a m := by
  obtain ⟨h1, h2, h3, h4, h5, h6, h7, h8⟩ := h
  have g : ∀ c j, (c = 1 ∨ c = 2 ∨ c = 3 ∨ (c = 0 ∧ (j = 1 ∨ j = 3 ∨ j = 4 ∨ j = 5 ∨ j = 7))) → m.1 c j = M.1 c j := fun c j q => ho.1 c j (fun z => hW c j z q)
  exact ⟨fun j hj => by rw [g _ _ (by omega)]; exact h1 j hj, by rw [g _ _ (by omega)]; exact h2, fun j hj => by rw [g _ _ (by omega)]; exact h3 j hj, by rw [g _ _ (by omega)]; exact h4, by rw [g _ _ (by omega)]; exact h5, by rw [g _ _ (by omega)]; exact h6, fun j hj => by rw [g _ _ (by omega)]; exact h7 j hj, by rw [g _ _ (by omega)]; exact h8⟩
theorem mIO_off {W : Nat → Nat → Prop} {a : dIO} {M m : mm_M} (h : mIO a M) (ho : offA W M m) (hW : ∀ c j, W c j → ¬ (c = 165 ∨ c = 166 ∨ c = 242 ∨ (c = 164 ∧ (j = 1 ∨ j = 7 ∨ j = 8 ∨ j = 81 ∨ j = 115)))) : mIO a m := by
  obtain ⟨h1, h2, h3, h4, h5, h6, h7, h8⟩ := h
  have g : ∀ c j, (c = 165 ∨ c = 166 ∨ c = 242 ∨ (c = 164 ∧ (j = 1 ∨ j = 7 ∨ j = 8 ∨ j = 81 ∨ j = 115))) → m.1 c j = M.1 c j ∧ m.2.1 c j = M.2.1 c j := fun c j q => ⟨ho.1 c j (fun z => hW c j z q), ho.2.1 c j (fun z => hW c j z q)⟩
  exact ⟨fun j hj => by rw [(g _ _ (by omega)).1]; exact h1 j hj, by rw [(g _ _ (by omega)).1]; exact h2, fun j hj => by rw [(g _ _ (by omega)).1]; exact h3 j hj, by rw [(g _ _ (by omega)).1]; exact h4, by rw [(g _ _ (by omega)).1]; exact h5, by rw [(g _ _ (by omega)).2]; exact h6, fun j hj => by rw [(g _ _ (by omega)).1]; exact h7 j hj, by rw [(g _ _ (by omega)).1]; exact h8⟩
theorem cU_offA {W : Nat → Nat → Prop} {r : Nat} {U : dU} {M m : mm_M} (h : cU r U M) (ho : offA W M m) (hW : ∀ c j, W c j → ¬ ((c = 21 ∧ j = 0) ∨ (r ≤ c ∧ c ≤ r + 7))) : cU r U m := by
  obtain ⟨h1, h2, h3, h4, h5, h6⟩ := h
  have g0 : ∀ j, m.1 r j = M.1 r j := fun j => ho.1 _ _ (fun q => hW _ _ q (by omega))
  have g : ∀ i j, i ≤ 7 → m.1 (r + i) j = M.1 (r + i) j := fun i j hi => ho.1 _ _ (fun q => hW _ _ q (by omega))
  refine ⟨by rw [ho.2.2 _ _ (fun q => hW _ _ q (by omega))]; exact h1, h2, by rw [g0]; exact h3, by rw [g0]; exact h4, fun h hh => by rw [g 3 h (by omega)]; exact h5 h hh, fun k hk => ?_⟩
  obtain ⟨f, e, q1, q2, q3, q4, q5⟩ := h6 k hk
  exact ⟨f, e, by rw [g 6 k (by omega)]; exact q1, by rw [g 7 k (by omega)]; exact q2, q3, q4, fun j t ht => by rw [g 5 _ (by omega)]; exact q5 j t ht⟩
theorem cRU_off {W : Nat → Nat → Prop} {a : dRU} {M m : mm_M} (h : cRU a M) (ho : offA W M m) (hW : ∀ c j, W c j → ¬ ((c = 0 ∧ j = 11) ∨ (c = 21 ∧ j = 0) ∨ (c = 4 ∧ j = 1) ∨ (a.2.2.2.2 ≤ c ∧ c ≤ a.2.2.2.2 + 7))) : cRU a m := by
  obtain ⟨h1, h2, h3, h4, ⟨s, h5, h6, h7⟩, h8, h9, h10, h11, h12, h13⟩ := h
  have g0 : ∀ j, m.1 a.2.2.2.2 j = M.1 a.2.2.2.2 j := fun j => ho.1 _ _ (fun q => hW _ _ q (by omega))
  have g : ∀ i j, i ≤ 7 → m.1 (a.2.2.2.2 + i) j = M.1 (a.2.2.2.2 + i) j := fun i j hi => ho.1 _ _ (fun q => hW _ _ q (by omega))
  exact ⟨by rw [ho.2.2 _ _ (fun q => hW _ _ q (by omega))]; exact h1, by rw [ho.2.2 _ _ (fun q => hW _ _ q (by omega))]; exact h2, by rw [ho.2.2 _ _ (fun q => hW _ _ q (by omega))]; exact h3, h4, ⟨s, h5, by rw [g0]; exact h6, h7⟩, by rw [g0]; exact h8, by rw [g0]; exact h9, by rw [g0]; exact h10, fun h k hh hk => by rw [g 1 _ (by omega)]; exact h11 h k hh hk, fun h hh => by rw [g 3 _ (by omega)]; exact h12 h hh, fun q => cU_offA (h13 q) ho (fun c j z => by have := hW c j z; omega)⟩
theorem mU_offA {W : Nat → Nat → Prop} {U : dU} {M m : mm_M} (h : mU U M) (ho : offA W M m) (hW : ∀ c j, W c j → ¬ ((c = 191 ∧ 2 ≤ j) ∨ (c = 194 ∧ 7 ≤ j) ∨ (c = 196 ∧ 5 ≤ j) ∨ (c = 197 ∧ 5 ≤ j) ∨ (c = 198 ∧ 1600 ≤ j) ∨ (c = 164 ∧ j = 38))) : mU U m := by
  obtain ⟨h1, h2, h3, h4⟩ := h
  have g : ∀ c j, ((c = 191 ∧ 2 ≤ j) ∨ (c = 194 ∧ 7 ≤ j) ∨ (c = 196 ∧ 5 ≤ j) ∨ (c = 197 ∧ 5 ≤ j) ∨ (c = 198 ∧ 1600 ≤ j) ∨ (c = 164 ∧ j = 38)) → m.1 c j = M.1 c j := fun c j q => ho.1 c j (fun z => hW c j z q)
  refine ⟨by rw [g _ _ (by omega)]; exact h1, by rw [g _ _ (by omega)]; exact h2, fun h hh => by rw [g _ _ (by omega)]; exact h3 h hh, fun k hk => ?_⟩
  rcases h4 k hk with ⟨q1, q2⟩ | ⟨f, e, q1, q2, q3, q4, q5⟩
  · exact Or.inl ⟨by rw [g _ _ (by omega)]; exact q1, q2⟩
  · exact Or.inr ⟨f, e, by rw [g _ _ (by omega)]; exact q1, by rw [g _ _ (by omega)]; exact q2, q3, q4, fun j t ht => by rw [g _ _ (by omega)]; exact q5 j t ht⟩
theorem mRU_off {W : Nat → Nat → Prop} {a : dRU} {M m : mm_M} (h : mRU a M) (ho : offA W M m) (hW : ∀ c j, W c j → ¬ ((c = 191 ∧ 2 ≤ j) ∨ (c = 192 ∧ 7 ≤ j) ∨ (c = 194 ∧ 7 ≤ j) ∨ (c = 196 ∧ 5 ≤ j) ∨ (c = 197 ∧ 5 ≤ j) ∨ (c = 198 ∧ 1600 ≤ j) ∨ (c = 164 ∧ (j = 38 ∨ j = 48)))) : mRU a m := by
  obtain ⟨h1, h2, h3, h4⟩ := h
  refine ⟨by rw [ho.1 _ _ (fun q => hW _ _ q (by omega))]; exact h1, mU_offA h2 ho (fun c j q => by have := hW c j q; omega), by rw [ho.1 _ _ (fun q => hW _ _ q (by omega))]; exact h3, fun h hh => ?_⟩
  obtain ⟨n, q1, q2, q3, q4, q5⟩ := h4 h hh
  exact ⟨n, q1, q2, q3, q4, by rw [ho.2.1 _ _ (fun q => hW _ _ q (by omega))]; exact q5⟩
theorem cN_offA {W : Nat → Nat → Prop} {a : Nat} {N : dN} {M m : mm_M} (h : cN a N M) (ho : offA W M m) (hW : ∀ c j, W c j → ¬ (a ≤ c ∧ c ≤ a + 3)) : cN a N m := by
  obtain ⟨h1, h2, h3, h4, h5⟩ := h
  have g0 : ∀ j, m.1 a j = M.1 a j := fun j => ho.1 _ _ (fun q => hW _ _ q (by omega))
  have g : ∀ i j, i ≤ 3 → m.1 (a + i) j = M.1 (a + i) j := fun i j hi => ho.1 _ _ (fun q => hW _ _ q (by omega))
  exact ⟨by rw [g0]; exact h1, by rw [g0]; exact h2, fun h hh => by rw [g 1 h (by omega)]; exact h3 h hh, fun h hh => by rw [g 2 h (by omega)]; exact h4 h hh, fun h k hh hk => by rw [g 3 _ (by omega)]; exact h5 h k hh hk⟩
theorem cK_offA {W : Nat → Nat → Prop} {a B : Nat} {L : List dQ} {M m : mm_M} (h : cK a L B M) (ho : offA W M m) (hW : ∀ c j, W c j → ¬ (a ≤ c ∧ c ≤ a + 4)) : cK a L B m := by
  obtain ⟨n, h1, h2, h3, h4⟩ := h
  exact ⟨n, by rw [ho.1 _ _ (fun q => hW _ _ q (by omega))]; exact h1, h2, h3, fun k q hq => by rw [ho.1 _ _ (fun q => hW _ _ q (by omega))]; exact h4 k q hq⟩
theorem cST_off {W : Nat → Nat → Prop} {B : Nat} {a : dST} {M m : mm_M} (h : cST B a M) (ho : offA W M m) (hW : ∀ c j, W c j → ¬ ((37 ≤ c ∧ c ≤ 41) ∨ (47 ≤ c ∧ c ≤ 148))) : cST B a m := by
  obtain ⟨h1, h2, h3, h4, p, h5, h6, h7⟩ := h
  refine ⟨cN_offA h1 ho (fun c j q => by have := hW c j q; omega), cK_offA h2 ho (fun c j q => by have := hW c j q; omega), h3, by rw [ho.1 _ _ (fun q => hW _ _ q (by omega))]; exact h4, p, h5, by rw [ho.1 _ _ (fun q => hW _ _ q (by omega))]; exact h6, fun k s hs => ?_⟩
  have hm : (p + 19 - k) % 20 < 20 := Nat.mod_lt _ (by decide)
  have := h7 k s hs
  generalize (p + 19 - k) % 20 = i at hm this
  exact ⟨cN_offA this.1 ho (fun c j q => by have := hW c j q; unfold stc; omega), cK_offA this.2 ho (fun c j q => by have := hW c j q; unfold stc; omega)⟩
theorem mN_eq {N : dN} {M m : mm_M} (h : mN N M) (g : ∀ j, j < 43 → m.1 199 j = M.1 199 j) : mN N m := by
  obtain ⟨h1, h2, h3, h4, h5⟩ := h
  exact ⟨by rw [g _ (by omega)]; exact h1, fun h hh => by rw [g _ (by omega)]; exact h2 h hh, fun h hh => by rw [g _ (by omega)]; exact h3 h hh, fun h hh => by rw [g _ (by omega)]; exact h4 h hh, fun a b ha hb hab => by rw [g _ (by have := pr_lt a ha b hb hab; omega)]; exact h5 a b ha hb hab⟩
theorem mK_eq {L : List dQ} {M m : mm_M} (h : mK L M) (g : ∀ j, 43 ≤ j → j < 204 → m.1 199 j = M.1 199 j) : mK L m := by
  obtain ⟨h1, h2, h3⟩ := h
  refine ⟨by rw [g _ (by omega) (by omega)]; exact h1, h2, fun k q hq => ?_⟩
  have hk : k < L.length := (List.getElem?_eq_some_iff.mp hq).1
  rw [g _ (by omega) (by omega), g _ (by omega) (by omega), g _ (by omega) (by omega), g _ (by omega) (by omega)]; exact h3 k q hq
theorem mST_off {W : Nat → Nat → Prop} {a : dST} {M m : mm_M} (h : mST a M) (ho : offA W M m) (hW : ∀ c j, W c j → ¬ (c = 199 ∨ c = 216 ∨ (c = 164 ∧ (j = 79 ∨ j = 80)))) : mST a m := by
  obtain ⟨h1, h2, h3, p, h4, h5, h6⟩ := h
  refine ⟨mN_eq h1 (fun j _ => ho.1 _ _ (fun q => hW _ _ q (by omega))), mK_eq h2 (fun j _ _ => ho.1 _ _ (fun q => hW _ _ q (by omega))), by rw [ho.1 _ _ (fun q => hW _ _ q (by omega))]; exact h3, p, h4, by rw [ho.1 _ _ (fun q => hW _ _ q (by omega))]; exact h5, fun k s hs => ?_⟩
  have := h6 k s hs
  exact ⟨mN_eq this.1 (fun j _ => ho.1 _ _ (fun q => hW _ _ q (by omega))), mK_eq this.2 (fun j _ _ => ho.1 _ _ (fun q => hW _ _ q (by omega)))⟩
theorem cSE_off {W : Nat → Nat → Prop} {a : dSE} {M m : mm_M} (h : cSE a M) (ho : offA W M m) (hW : ∀ c j, W c j → ¬ (c = 160 ∨ (c = 159 ∧ j = 0))) : cSE a m :=
  ⟨by rw [ho.1 _ _ (fun q => hW _ _ q (by omega))]; exact h.1, fun j hj => by rw [ho.1 _ _ (fun q => hW _ _ q (by omega))]; exact h.2 j hj⟩
theorem mSE_off {W : Nat → Nat → Prop} {a : dSE} {M m : mm_M} (h : mSE a M) (ho : offA W M m) (hW : ∀ c j, W c j → ¬ (c = 212 ∨ (c = 164 ∧ j = 72))) : mSE a m :=
  ⟨by rw [ho.1 _ _ (fun q => hW _ _ q (by omega))]; exact h.1, fun j hj => by rw [ho.1 _ _ (fun q => hW _ _ q (by omega))]; exact h.2 j hj⟩
theorem mID_off {W : Nat → Nat → Prop} {M m : mm_M} (h : mID M) (ho : offA W M m) (hW : ∀ c j, W c j → ¬ (c = 164 ∧ (j = 57 ∨ j = 59 ∨ j = 66))) : mID m :=
  ⟨by rw [ho.1 _ _ (fun q => hW _ _ q (by omega))]; exact h.1, by rw [ho.1 _ _ (fun q => hW _ _ q (by omega))]; exact h.2.1, by rw [ho.1 _ _ (fun q => hW _ _ q (by omega))]; exact h.2.2⟩
/-- the places that I0 speaks of -/
def k1 (c j : Nat) : Prop := c = 1 ∨ c = 2 ∨ c = 3 ∨ (c = 0 ∧ (j = 1 ∨ j = 3 ∨ j = 4 ∨ j = 5 ∨ j = 7))
def k2 (c j : Nat) : Prop := c = 165 ∨ c = 166 ∨ c = 242 ∨ (c = 164 ∧ (j = 1 ∨ j = 7 ∨ j = 8 ∨ j = 81 ∨ j = 115))
def k3 (r c j : Nat) : Prop := (c = 0 ∧ j = 11) ∨ (c = 21 ∧ j = 0) ∨ (c = 4 ∧ j = 1) ∨ (r ≤ c ∧ c ≤ r + 7)
def k4 (c j : Nat) : Prop := (c = 191 ∧ 2 ≤ j) ∨ (c = 192 ∧ 7 ≤ j) ∨ (c = 194 ∧ 7 ≤ j) ∨ (c = 196 ∧ 5 ≤ j) ∨ (c = 197 ∧ 5 ≤ j) ∨ (c = 198 ∧ 1600 ≤ j) ∨ (c = 164 ∧ (j = 38 ∨ j = 48))
def k5 (c _j : Nat) : Prop := (37 ≤ c ∧ c ≤ 41) ∨ (47 ≤ c ∧ c ≤ 148)
def k6 (c j : Nat) : Prop := c = 199 ∨ c = 216 ∨ (c = 164 ∧ (j = 79 ∨ j = 80))
def k7 (c j : Nat) : Prop := c = 160 ∨ (c = 159 ∧ j = 0)
def k8 (c j : Nat) : Prop := c = 212 ∨ (c = 164 ∧ j = 72)
def k9 (c j : Nat) : Prop := c = 0 ∧ j = 18
def k10 (c j : Nat) : Prop := c = 164 ∧ (j = 57 ∨ j = 59 ∨ j = 66)
def kI (r c j : Nat) : Prop := k1 c j ∨ k2 c j ∨ k3 r c j ∨ k4 c j ∨ k5 c j ∨ k6 c j ∨ k7 c j ∨ k8 c j ∨ k9 c j ∨ k10 c j
theorem I0_off {W : Nat → Nat → Prop} {u : Nat} {a : dA} {M m : mm_M} (h : I0 u a M) (ho : offA W M m) (hW : ∀ c j, W c j → ¬ kI a.2.1.2.2.2.2 c j) : I0 u a m := by
  obtain ⟨⟨h1, h2, h3⟩, ⟨h4, h5, h6⟩, ⟨h7, h8, h9⟩, ⟨h10, h11, h12⟩, ⟨h13, h14⟩, h15⟩ := h
  exact ⟨⟨cIO_off h1 ho (fun c j q z => hW c j q (Or.inl z)), mIO_off h2 ho (fun c j q z => hW c j q (Or.inr (Or.inl z))), h3⟩, ⟨cRU_off h4 ho (fun c j q z => hW c j q (Or.inr (Or.inr (Or.inl z)))), mRU_off h5 ho (fun c j q z => hW c j q (Or.inr (Or.inr (Or.inr (Or.inl z))))), h6⟩, ⟨cST_off h7 ho (fun c j q z => hW c j q (Or.inr (Or.inr (Or.inr (Or.inr (Or.inl z)))))), mST_off h8 ho (fun c j q z => hW c j q (Or.inr (Or.inr (Or.inr (Or.inr (Or.inr (Or.inl z))))))), h9⟩, ⟨cSE_off h10 ho (fun c j q z => hW c j q (Or.inr (Or.inr (Or.inr (Or.inr (Or.inr (Or.inr (Or.inl z)))))))), mSE_off h11 ho (fun c j q z => hW c j q (Or.inr (Or.inr (Or.inr (Or.inr (Or.inr (Or.inr (Or.inr (Or.inl z))))))))), h12⟩, ⟨by rw [ho.1 _ _ (fun q => hW _ _ q (Or.inr (Or.inr (Or.inr (Or.inr (Or.inr (Or.inr (Or.inr (Or.inr (Or.inl ⟨rfl, rfl⟩))))))))))]; exact h13, h14⟩, mID_off h15 ho (fun c j q z => hW c j q (Or.inr (Or.inr (Or.inr (Or.inr (Or.inr (Or.inr (Or.inr (Or.inr (Or.inr (z)))))))))))⟩
