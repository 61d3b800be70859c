/-! ===== the abstract duchy: rules U, a moment N ===== -/
/-- loaf, houses, salt by house, code by kind (tokens) -/
abbrev dU : Type := Int × Nat × (Nat → Int) × (Nat → List Int)
/-- day, who is there (a set below 128), flour, hunger, hate -/
abbrev dN : Type := Int × Nat × (Nat → Int) × (Nat → Int) × (Nat → Nat → Int)
def val (F : Nat → Option Int) (ts : List Int) : Int := match evl F (fun _ _ => none) ts [] with
  | some [(v, _)] => v
  | _ => 0
/-- the row comes to one value wherever the facts of 'al' are told -/
def okc (al : List Nat) (ts : List Int) : Prop := ∀ F : Nat → Option Int, (∀ k ∈ al, ∃ v, F k = some v) → (∀ k v, F k = some v → okz v) → ∃ v fl, evl F (fun _ _ => none) ts [] = some [(v, fl)]
theorem val_of {F : Nat → Option Int} {ts : List Int} {v : Int} {fl : Bool} (h : evl F (fun _ _ => none) ts [] = some [(v, fl)]) : val F ts = v := by
  unfold val; rw [h]
def fL (U : dU) (N : dN) (b e : Nat) : Nat → Option Int := fun k => if k = 13 then some N.1 else if k = 2 then some (N.2.2.1 b) else if k = 3 then some (U.2.2.1 b) else if k = 14 then some (N.2.2.2.1 e) else if k = 6 then some (N.2.2.2.2 e b) else none
def fH (U : dU) (N : dN) (h : Nat) : Nat → Option Int := fun k => if k = 13 then some N.1 else if k = 2 then some (N.2.2.1 h) else if k = 3 then some (U.2.2.1 h) else if k = 14 then some (N.2.2.2.1 h) else none
def fC (day hate loaves : Int) : Nat → Option Int := fun k => if k = 13 then some day else if k = 6 then some hate else if k = 15 then some loaves else none
def alL : List Nat := [13, 2, 3, 14, 6]
def alH : List Nat := [13, 2, 3, 14]
def alC : List Nat := [13, 6, 15]
def bnd (x : Int) : Int := if x < 0 then 0 else if 99 < x then 99 else x
theorem bnd_in (x : Int) : 0 ≤ bnd x ∧ bnd x ≤ 99 := by unfold bnd; split <;> [skip; split] <;> omega
/-- U is a duchy's rules -/
def vU (U : dU) : Prop := (1 ≤ U.1 ∧ U.1 ≤ 20) ∧ U.2.1 ≤ 7 ∧ (∀ h, 0 ≤ U.2.2.1 h ∧ U.2.2.1 h ≤ 9) ∧ okc alL (U.2.2.2 0) ∧ okc alL (U.2.2.2 1) ∧ okc alH (U.2.2.2 2) ∧ okc alC (U.2.2.2 3) ∧ okc alH (U.2.2.2 4)
/-- N is a moment: all within its bounds; hate is between two that are there -/
def vN (U : dU) (N : dN) : Prop := (0 ≤ N.1 ∧ N.1 ≤ 1100) ∧ N.2.1 < 2 ^ U.2.1 ∧ (∀ h, 0 ≤ N.2.2.1 h ∧ N.2.2.1 h ≤ 99) ∧ (∀ h, 0 ≤ N.2.2.2.1 h ∧ N.2.2.2.1 h ≤ 9) ∧ (∀ h k, 0 ≤ N.2.2.2.2 h k ∧ N.2.2.2.2 h k ≤ 99) ∧ (∀ h k, N.2.2.2.2 h k = N.2.2.2.2 k h) ∧ (∀ h, N.2.2.2.2 h h = 0) ∧ (∀ h k, 0 < N.2.2.2.2 h k → N.2.1.testBit h = true ∧ N.2.1.testBit k = true)
def worth (U : dU) (N : dN) (b e : Nat) : Int := val (fL U N b e) (U.2.2.2 0)
def tasteA (U : dU) (N : dN) (b e : Nat) : Int := bnd (val (fL U N b e) (U.2.2.2 1))
def able (U : dU) (N : dN) (e busy b : Nat) : Bool := decide (0 < N.2.2.2.2 e b) && decide (U.1 ≤ N.2.2.1 b) && !(busy.testBit b)
/-- the first of those that can bake and are worth most -/
def pickS (U : dU) (N : dN) (e busy : Nat) (acc : Option (Nat × Int)) (b : Nat) : Option (Nat × Int) := if able U N e busy b then (match acc with
  | none => some (b, worth U N b e)
  | some (b0, w0) => if w0 < worth U N b e then some (b, worth U N b e) else some (b0, w0)) else acc
def pickA (U : dU) (N : dN) (e busy : Nat) : Option Nat := ((List.range 7).foldl (pickS U N e busy) none).map (·.1)
/-! sets below 128, small numbers: by trying all -/
theorem bit_at : ∀ b, b < 128 → ∀ h, h < 7 → ((((nI b >>> (nI h &&& 31)) &&& 1) = 0) ↔ b.testBit h = false) := by decide +kernel
theorem bit_or : ∀ b, b < 128 → ∀ h, h < 7 → (nI b ||| ((1 : Int32) <<< (nI h &&& 31))) = nI (b ||| 2 ^ h) ∧ (b ||| 2 ^ h) < 128 := by decide +kernel
theorem bit_clr : ∀ b, b < 128 → ∀ h, h < 7 → (nI b &&& (((1 : Int32) <<< (nI h &&& 31)) ^^^ (-1))) = nI (b - (if b.testBit h then 2 ^ h else 0)) := by decide +kernel
/-! where objects of several lie -/
theorem St_at {a : Nat} (h : a ∈ mm_Sts) : (37 ≤ a ∧ a + 4 ≤ 46) ∨ (49 ≤ a ∧ a + 4 ≤ 148) := (by decide +kernel : ∀ a ∈ mm_Sts, (37 ≤ a ∧ a + 4 ≤ 46) ∨ (49 ≤ a ∧ a + 4 ≤ 148)) a h
theorem Rl_at {a : Nat} (h : a ∈ mm_Rls) : a = 8 ∨ a = 22 := (by decide +kernel : ∀ a ∈ mm_Rls, a = 8 ∨ a = 22) a h
/-- a State at cell a holds N -/
def cN (a : Nat) (N : dN) (M : mm_M) : Prop := (M.1 a 0).toInt = N.1 ∧ M.1 a 1 = nI N.2.1 ∧ (∀ h, h < 7 → (M.1 (a + 1) h).toInt = N.2.2.1 h) ∧ (∀ h, h < 7 → (M.1 (a + 2) h).toInt = N.2.2.2.1 h) ∧ (∀ h k, h < 7 → k < 7 → (M.1 (a + 3) (8 * h + k)).toInt = N.2.2.2.2 h k)
/-- the class's Rules in force, at cell r, are U -/
def cU (r : Nat) (U : dU) (M : mm_M) : Prop := M.2.2 21 0 = some r ∧ r ∈ mm_Rls ∧ (M.1 r 1).toInt = U.1 ∧ M.1 r 2 = nI U.2.1 ∧ (∀ h, h < 7 → (M.1 (r + 3) h).toInt = U.2.2.1 h) ∧ ∀ k, k < 5 → ∃ f e : Nat, M.1 (r + 6) k = nI f ∧ M.1 (r + 7) k = nI e ∧ f + (U.2.2.2 k).length = e ∧ e < 1608 ∧ ∀ j t, (U.2.2.2 k)[j]? = some t → (M.1 (r + 5) (f + j)).toInt = t
/-- two memories agree but on the places W -/
def offM (W : Nat → Nat → Bool) (M m : mm_M) : Prop := (∀ c j, W c j = false → m.1 c j = M.1 c j) ∧ (∀ c j, W c j = false → m.2.1 c j = M.2.1 c j) ∧ m.2.2 = M.2.2
theorem offM_rf {W : Nat → Nat → Bool} {M : mm_M} : offM W M M := ⟨fun _ _ _ => rfl, fun _ _ _ => rfl, rfl⟩
theorem offM_tr {W : Nat → Nat → Bool} {M m m' : mm_M} (h : offM W M m) (h' : offM W m m') : offM W M m' := ⟨fun c j q => (h'.1 c j q).trans (h.1 c j q), fun c j q => (h'.2.1 c j q).trans (h.2.1 c j q), h'.2.2.trans h.2.2⟩
theorem offM_mono {W W' : Nat → Nat → Bool} {M m : mm_M} (h : offM W M m) (hW : ∀ c j, W' c j = false → W c j = false) : offM W' M m := ⟨fun c j q => h.1 c j (hW c j q), fun c j q => h.2.1 c j (hW c j q), h.2.2⟩
theorem offM_cI {W : Nat → Nat → Bool} {M : mm_M} {a : Nat} {f : Nat → Int32} (hW : ∀ j, W a j = true) : offM W M (mm_cI M a f) := by
  refine ⟨fun c j q => ?_, fun _ _ _ => rfl, rfl⟩
  by_cases h : c = a
  · subst h; rw [hW j] at q; cases q
  · rw [cI_ne h]
theorem offM_uI {W : Nat → Nat → Bool} {M : mm_M} {a k : Nat} {x : Int32} (hW : W a k = true) : offM W M (mm_uI M a k x) := by
  refine ⟨fun c j q => ?_, fun _ _ _ => rfl, rfl⟩
  by_cases h : c = a
  · subst h
    rw [uI_cI, cI_self, upd]
    by_cases hj : j = k
    · subst hj; rw [hW] at q; cases q
    · rw [if_neg hj]
  · rw [uI_cI, cI_ne h]
/-- the class's scratch of the machine: facts and stack -/
def wM (c : Nat) (_ : Nat) : Bool := c == 31 || c == 34
theorem cU_off {W : Nat → Nat → Bool} {r : Nat} {U : dU} {M m : mm_M} (h : cU r U M) (ho : offM W M m) (hW : ∀ c j, (8 ≤ c ∧ c ≤ 15) ∨ (22 ≤ c ∧ c ≤ 29) → W c j = false) : cU r U m := by
  obtain ⟨h1, h2, h3, h4, h5, h6⟩ := h
  have hr := Rl_at h2
  have g : ∀ i j, i ≤ 7 → m.1 (r + i) j = M.1 (r + i) j := fun i j hi => ho.1 _ _ (hW _ _ (by omega))
  refine ⟨by rw [ho.2.2]; exact h1, h2, by rw [g 0 1 (by omega)]; exact h3, by rw [g 0 2 (by omega)]; exact h4, fun h hh => by rw [g 3 h (by omega)]; exact h5 h hh, fun k hk => ?_⟩
  obtain ⟨f, e, q1, q2, q3, q4, q5⟩ := h6 k hk
  exact ⟨f, e, by rw [g 6 k (by omega)]; exact q1, by rw [g 7 k (by omega)]; exact q2, q3, q4, fun j t ht => by rw [g 5 _ (by omega)]; exact q5 j t ht⟩
theorem cN_off {W : Nat → Nat → Bool} {a : Nat} {N : dN} {M m : mm_M} (h : cN a N M) (ho : offM W M m) (hW : ∀ i j, i ≤ 3 → W (a + i) j = false) : cN a N m := by
  obtain ⟨h1, h2, h3, h4, h5⟩ := h
  have g : ∀ i j, i ≤ 3 → m.1 (a + i) j = M.1 (a + i) j := fun i j hi => ho.1 _ _ (hW i j hi)
  exact ⟨by rw [g 0 0 (by omega)]; exact h1, by rw [g 0 1 (by omega)]; exact h2, fun h hh => by rw [g 1 h (by omega)]; exact h3 h hh, fun h hh => by rw [g 2 h (by omega)]; exact h4 h hh, fun h k hh hk => by rw [g 3 _ (by omega)]; exact h5 h k hh hk⟩
