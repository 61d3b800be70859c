/-! ===== the abstract duchy: rules U, a moment N ===== -/
/-- loaf, houses, salt by house, code by kind (tokens) -/
abbrev dU : Type := Int32 × Nat × (Nat → Int32) × (Nat → List Int)
/-- day, who is there (a set below 128), flour, hunger, hate -/
abbrev dN : Type := Int32 × Nat × (Nat → Int32) × (Nat → Int32) × (Nat → Nat → Int32)
def val (F : Nat → Option Int) (ts : List Int) : Int := match evl F (fun _ _ => none) ts [] with
  | some [(v, _)] => v
  | _ => 0
/-- the row comes to one value wherever the facts of 'al' are told; a test's to 0 or 1 -/
def okc (al : List Nat) (b : Bool) (ts : List Int) : Prop := ∀ F : Nat → Option Int, (∀ k ∈ al, ∃ v, F k = some v) → (∀ k v, F k = some v → okz v) → ∃ v fl, evl F (fun _ _ => none) ts [] = some [(v, fl)] ∧ (b = true → fl = true)
theorem val_of {F : Nat → Option Int} {ts : List Int} {v : Int} {fl : Bool} (h : evl F (fun _ _ => none) ts [] = some [(v, fl)]) : val F ts = v := by
  unfold val; rw [h]
def fL (U : dU) (N : dN) (b e : Nat) : Nat → Option Int := fun k => if k = 13 then some N.1.toInt else if k = 2 then some (N.2.2.1 b).toInt else if k = 3 then some (U.2.2.1 b).toInt else if k = 14 then some (N.2.2.2.1 e).toInt else if k = 6 then some (N.2.2.2.2 e b).toInt else none
def fH (U : dU) (N : dN) (h : Nat) : Nat → Option Int := fun k => if k = 13 then some N.1.toInt else if k = 2 then some (N.2.2.1 h).toInt else if k = 3 then some (U.2.2.1 h).toInt else if k = 14 then some (N.2.2.2.1 h).toInt else none
def fC (day hate loaves : Int32) : Nat → Option Int := fun k => if k = 13 then some day.toInt else if k = 6 then some hate.toInt else if k = 15 then some loaves.toInt else none
def alL : List Nat := [13, 2, 3, 14, 6]
def alH : List Nat := [13, 2, 3, 14]
def alC : List Nat := [13, 6, 15]
def bnd (x : Int) : Int32 := if x < 0 then 0 else if 99 < x then 99 else Int32.ofInt x
theorem bnd_in (x : Int) : 0 ≤ (bnd x).toInt ∧ (bnd x).toInt ≤ 99 := by
  unfold bnd
  by_cases h1 : x < 0
  · rw [if_pos h1]; decide
  · rw [if_neg h1]
    by_cases h2 : 99 < x
    · rw [if_pos h2]; decide
    · rw [if_neg h2, Int32.toInt_ofInt, bm32 (by omega) (by omega)]; omega
theorem bnd_toInt (x : Int) : (bnd x).toInt = if x < 0 then 0 else if 99 < x then 99 else x := by
  unfold bnd
  by_cases h1 : x < 0
  · rw [if_pos h1, if_pos h1]; decide
  · rw [if_neg h1, if_neg h1]
    by_cases h2 : 99 < x
    · rw [if_pos h2, if_pos h2]; decide
    · rw [if_neg h2, if_neg h2, Int32.toInt_ofInt, bm32 (by omega) (by omega)]
def inI (a b : Int) (x : Int32) : Prop := a ≤ x.toInt ∧ x.toInt ≤ b
/-- U is a duchy's rules -/
def vU (U : dU) : Prop := inI 0 20 U.1 ∧ U.2.1 ≤ 7 ∧ (∀ h, inI 0 9 (U.2.2.1 h)) ∧ okc alL false (U.2.2.2 0) ∧ okc alL false (U.2.2.2 1) ∧ okc alH true (U.2.2.2 2) ∧ okc alC false (U.2.2.2 3) ∧ okc alH false (U.2.2.2 4)
/-- N is a moment: all within its bounds; hate is between two that are there -/
def vN (U : dU) (N : dN) : Prop := inI 0 1100 N.1 ∧ N.2.1 < 2 ^ U.2.1 ∧ (∀ h, inI 0 99 (N.2.2.1 h)) ∧ (∀ h, inI 0 9 (N.2.2.2.1 h)) ∧ (∀ h k, inI 0 99 (N.2.2.2.2 h k)) ∧ (∀ h k, N.2.2.2.2 h k = N.2.2.2.2 k h) ∧ (∀ h, N.2.2.2.2 h h = 0) ∧ (∀ h k, 0 < N.2.2.2.2 h k → N.2.1.testBit h = true ∧ N.2.1.testBit k = true)
/-! what is told: facts -/
theorem okz_of {a b : Int} {x : Int32} (h : inI a b x) (ha : -1000000 ≤ a) (hb : b ≤ 1000000) : okz x.toInt := by unfold inI at h; unfold okz; omega
theorem fL_all {U : dU} {N : dN} {b e : Nat} : ∀ k ∈ alL, ∃ v, fL U N b e k = some v := by
  intro k hk
  simp only [alL, List.mem_cons, List.not_mem_nil, or_false] at hk
  rcases hk with rfl | rfl | rfl | rfl | rfl <;> exact ⟨_, rfl⟩
theorem fH_all {U : dU} {N : dN} {h : Nat} : ∀ k ∈ alH, ∃ v, fH U N h k = some v := by
  intro k hk
  simp only [alH, List.mem_cons, List.not_mem_nil, or_false] at hk
  rcases hk with rfl | rfl | rfl | rfl <;> exact ⟨_, rfl⟩
theorem fC_all {a b c : Int32} : ∀ k ∈ alC, ∃ v, fC a b c k = some v := by
  intro k hk
  simp only [alC, List.mem_cons, List.not_mem_nil, or_false] at hk
  rcases hk with rfl | rfl | rfl <;> exact ⟨_, rfl⟩
theorem fL_of {U : dU} {N : dN} {b e k : Nat} {v : Int} (h : fL U N b e k = some v) : (k = 13 ∧ v = N.1.toInt) ∨ (k = 2 ∧ v = (N.2.2.1 b).toInt) ∨ (k = 3 ∧ v = (U.2.2.1 b).toInt) ∨ (k = 14 ∧ v = (N.2.2.2.1 e).toInt) ∨ (k = 6 ∧ v = (N.2.2.2.2 e b).toInt) := by
  unfold fL at h
  split at h
  · cases h; omega
  split at h
  · cases h; omega
  split at h
  · cases h; omega
  split at h
  · cases h; omega
  split at h
  · cases h; omega
  · cases h
theorem fH_of {U : dU} {N : dN} {b k : Nat} {v : Int} (h : fH U N b k = some v) : (k = 13 ∧ v = N.1.toInt) ∨ (k = 2 ∧ v = (N.2.2.1 b).toInt) ∨ (k = 3 ∧ v = (U.2.2.1 b).toInt) ∨ (k = 14 ∧ v = (N.2.2.2.1 b).toInt) := by
  unfold fH at h
  split at h
  · cases h; omega
  split at h
  · cases h; omega
  split at h
  · cases h; omega
  split at h
  · cases h; omega
  · cases h
theorem fC_of {a b c : Int32} {k : Nat} {v : Int} (h : fC a b c k = some v) : (k = 13 ∧ v = a.toInt) ∨ (k = 6 ∧ v = b.toInt) ∨ (k = 15 ∧ v = c.toInt) := by
  unfold fC at h
  split at h
  · cases h; omega
  split at h
  · cases h; omega
  split at h
  · cases h; omega
  · cases h
theorem fL_ok {U : dU} {N : dN} {b e : Nat} (hU : vU U) (hN : vN U N) : ∀ k v, fL U N b e k = some v → okz v := by
  intro k v h
  obtain ⟨-, -, u3, -⟩ := hU
  obtain ⟨n1, -, n3, n4, n5, -⟩ := hN
  rcases fL_of h with ⟨-, rfl⟩ | ⟨-, rfl⟩ | ⟨-, rfl⟩ | ⟨-, rfl⟩ | ⟨-, rfl⟩
  · exact okz_of n1 (by omega) (by omega)
  · exact okz_of (n3 b) (by omega) (by omega)
  · exact okz_of (u3 b) (by omega) (by omega)
  · exact okz_of (n4 e) (by omega) (by omega)
  · exact okz_of (n5 e b) (by omega) (by omega)
theorem fH_ok {U : dU} {N : dN} {b : Nat} (hU : vU U) (hN : vN U N) : ∀ k v, fH U N b k = some v → okz v := by
  intro k v h
  obtain ⟨-, -, u3, -⟩ := hU
  obtain ⟨n1, -, n3, n4, n5, -⟩ := hN
  rcases fH_of h with ⟨-, rfl⟩ | ⟨-, rfl⟩ | ⟨-, rfl⟩ | ⟨-, rfl⟩
  · exact okz_of n1 (by omega) (by omega)
  · exact okz_of (n3 b) (by omega) (by omega)
  · exact okz_of (u3 b) (by omega) (by omega)
  · exact okz_of (n4 b) (by omega) (by omega)
theorem fC_ok {a b c : Int32} (h1 : okz a.toInt) (h2 : okz b.toInt) (h3 : okz c.toInt) : ∀ k v, fC a b c k = some v → okz v := by
  intro k v h
  rcases fC_of h with ⟨-, rfl⟩ | ⟨-, rfl⟩ | ⟨-, rfl⟩
  · exact h1
  · exact h2
  · exact h3
theorem evl_good {F : Nat → Option Int} {OF : Int → Int → Option Int} (hF : ∀ k v, F k = some v → okz v) (hO : ∀ t a v, OF t a = some v → okz v) : ∀ (ts : List Int) (s s' : List (Int × Bool)), evl F OF ts s = some s' → gs s → gs s'
  | [], s, s', h, hs => by cases h; exact hs
  | t :: ts, s, s', h, hs => by
    obtain ⟨s1, h1, h2⟩ := Option.bind_eq_some_iff.mp (show (e1 F OF t s).bind (evl F OF ts) = some s' from h)
    exact evl_good hF hO ts s1 s' h2 (e1_good hF hO h1 hs)
theorem okc_val {al : List Nat} {b : Bool} {ts : List Int} {F : Nat → Option Int} (h : okc al b ts) (h1 : ∀ k ∈ al, ∃ v, F k = some v) (h2 : ∀ k v, F k = some v → okz v) : (∃ fl, evl F (fun _ _ => none) ts [] = some [(val F ts, fl)]) ∧ okz (val F ts) ∧ (b = true → val F ts = 0 ∨ val F ts = 1) := by
  obtain ⟨v, fl, e, hb⟩ := h F h1 h2
  have g := evl_good h2 (fun _ _ _ q => by cases q) ts [] _ e (fun q hq => by cases hq)
  have g1 := g (v, fl) List.mem_cons_self
  rw [val_of e]
  exact ⟨⟨fl, e⟩, g1.1, fun q => g1.2 (hb q)⟩
/-! a day -/
def worth (U : dU) (N : dN) (b e : Nat) : Int := val (fL U N b e) (U.2.2.2 0)
def tasteA (U : dU) (N : dN) (b e : Nat) : Int32 := bnd (val (fL U N b e) (U.2.2.2 1))
def able (U : dU) (N : dN) (e busy b : Nat) : Bool := decide (0 < N.2.2.2.2 e b) && decide (U.1 ≤ N.2.2.1 b) && !(busy.testBit b)
/-- the first of those that can bake and are worth most -/
def pickS (f : Nat → Bool) (w : Nat → Int) (acc : Option (Nat × Int)) (b : Nat) : Option (Nat × Int) := if f b then (match acc with
  | none => some (b, w b)
  | some (b0, w0) => if w0 < w b then some (b, w b) else some (b0, w0)) else acc
def pickA (U : dU) (N : dN) (e busy : Nat) : Option Nat := ((List.range' 0 7).foldl (pickS (able U N e busy) (fun b => worth U N b e)) none).map (·.1)
def setF {α : Type} (f : Nat → α) (k : Nat) (x : α) : Nat → α := fun j => if j = k then x else f j
/-- one house eats: moment, who bakes already, for each eater its baker and taste, loaves in their order -/
abbrev dS : Type := dN × Nat × (Nat → Option (Nat × Int32)) × List (Nat × Nat × Int32)
def more1 (x : Int32) : Int32 := if x + 1 < 9 then x + 1 else 9
def eatA (U : dU) (N : dN) (b e : Nat) : dN := (N.1, N.2.1, setF N.2.2.1 b (N.2.2.1 b - U.1), setF N.2.2.2.1 e 0, N.2.2.2.2)
def hungA (N : dN) (e : Nat) : dN := (N.1, N.2.1, N.2.2.1, setF N.2.2.2.1 e (more1 (N.2.2.2.1 e)), N.2.2.2.2)
def serveS (U : dU) (S : dS) (e : Nat) : dS := if S.1.2.1.testBit e then (match pickA U S.1 e S.2.1 with
  | none => (hungA S.1 e, S.2.1, S.2.2.1, S.2.2.2)
  | some b => (eatA U S.1 b e, S.2.1 ||| 2 ^ b, setF S.2.2.1 e (some (b, tasteA U S.1 b e)), S.2.2.2 ++ [(b, e, tasteA U S.1 b e)])) else S
def serveA (U : dU) (N : dN) (rest : Nat) : dS := (List.range' 0 7).foldl (serveS U) (N, rest, fun _ => none, [])
def starvesA (U : dU) (N : dN) (h : Nat) : Bool := decide (val (fH U N h) (U.2.2.2 2) ≠ 0)
def goneA (N : dN) (h : Nat) : dN := (N.1, N.2.1 - (if N.2.1.testBit h then 2 ^ h else 0), N.2.2.1, N.2.2.2.1, fun i j => if i = h ∨ j = h then 0 else N.2.2.2.2 i j)
def starveS (U : dU) (N : dN) (h : Nat) : dN := if N.2.1.testBit h && starvesA U N h then goneA N h else N
def starveA (U : dU) (N : dN) : dN := (List.range' 0 7).foldl (starveS U) N
def loavesOf (bt : Nat → Option (Nat × Int32)) (a b : Nat) : Int32 := (if (bt a).map (·.1) = some b then 1 else 0) + (if (bt b).map (·.1) = some a then 1 else 0)
def setH (N : dN) (a b : Nat) (x : Int32) : dN := (N.1, N.2.1, N.2.2.1, N.2.2.2.1, fun i j => if (i = a ∧ j = b) ∨ (i = b ∧ j = a) then x else N.2.2.2.2 i j)
def coolS (U : dU) (bt : Nat → Option (Nat × Int32)) (a : Nat) (N : dN) (b : Nat) : dN := if 0 < N.2.2.2.2 a b then setH N a b (bnd (val (fC N.1 (N.2.2.2.2 a b) (loavesOf bt a b)) (U.2.2.2 3))) else N
def coolA (U : dU) (bt : Nat → Option (Nat × Int32)) (N : dN) : dN := (List.range' 0 7).foldl (fun N a => (List.range' (a + 1) (6 - a)).foldl (coolS U bt a) N) N
def growS (U : dU) (N : dN) (h : Nat) : dN := if N.2.1.testBit h then (N.1, N.2.1, setF N.2.2.1 h (bnd ((N.2.2.1 h).toInt + val (fH U N h) (U.2.2.2 4))), N.2.2.2.1, N.2.2.2.2) else N
def growA (U : dU) (N : dN) : dN := (List.range' 0 7).foldl (growS U) N
/-- a day, its number left as it is -/
def dayA (U : dU) (N : dN) (rest : Nat) : dN := growA U (coolA U (serveA U N rest).2.2.1 (starveA U (serveA U N rest).1))
/-! sets below 128, small numbers: by trying all -/
theorem bit_at : ∀ b, b < 128 → ∀ h, h < 7 → ((((nI b >>> (nI h &&& 31)) &&& 1) = 0) ↔ b.testBit h = false) := by decide +kernel
theorem bit_or : ∀ b, b < 128 → ∀ h, h < 7 → (nI b ||| ((1 : Int32) <<< (nI h &&& 31))) = nI (b ||| 2 ^ h) ∧ (b ||| 2 ^ h) < 128 := by decide +kernel
theorem bit_clr : ∀ b, b < 128 → ∀ h, h < 7 → (nI b &&& (((1 : Int32) <<< (nI h &&& 31)) ^^^ (-1))) = nI (b - (if b.testBit h then 2 ^ h else 0)) := by decide +kernel
theorem ix8 : ∀ a, a < 8 → ∀ b, b < 8 → (8 : Int32) * nI a + nI b = nI (8 * a + b) := by decide +kernel
theorem lt7 {i : Nat} (h : i < 7) : ¬ (7 : Int32) ≤ nI i := nI_ge (b := 7) h (by decide)
theorem clr_bit : ∀ b, b < 128 → ∀ h, h < 7 → ∀ k, k < 7 → (b - (if b.testBit h then 2 ^ h else 0)).testBit k = (b.testBit k && !(decide (k = h))) := by decide +kernel
/-! where objects of several lie -/
theorem St_at {a : Nat} (h : a ∈ mm_Sts) : (37 ≤ a ∧ a + 4 ≤ 46) ∨ (49 ≤ a ∧ a + 4 ≤ 148) := (by decide +kernel : ∀ a ∈ mm_Sts, (37 ≤ a ∧ a + 4 ≤ 46) ∨ (49 ≤ a ∧ a + 4 ≤ 148)) a h
theorem Rl_at {a : Nat} (h : a ∈ mm_Rls) : a = 8 ∨ a = 22 := (by decide +kernel : ∀ a ∈ mm_Rls, a = 8 ∨ a = 22) a h
/-- a State at cell a holds N -/
def cN (a : Nat) (N : dN) (M : mm_M) : Prop := M.1 a 0 = N.1 ∧ M.1 a 1 = nI N.2.1 ∧ (∀ h, h < 7 → M.1 (a + 1) h = N.2.2.1 h) ∧ (∀ h, h < 7 → M.1 (a + 2) h = N.2.2.2.1 h) ∧ (∀ h k, h < 7 → k < 7 → M.1 (a + 3) (8 * h + k) = N.2.2.2.2 h k)
/-- the class's Rules in force, at cell r, are U -/
def cU (r : Nat) (U : dU) (M : mm_M) : Prop := M.2.2 21 0 = some r ∧ r ∈ mm_Rls ∧ M.1 r 1 = U.1 ∧ M.1 r 2 = nI U.2.1 ∧ (∀ h, h < 7 → M.1 (r + 3) h = U.2.2.1 h) ∧ ∀ k, k < 5 → ∃ f e : Nat, M.1 (r + 6) k = nI f ∧ M.1 (r + 7) k = nI e ∧ f + (U.2.2.2 k).length = e ∧ e < 1608 ∧ ∀ j t, (U.2.2.2 k)[j]? = some t → (M.1 (r + 5) (f + j)).toInt = t
/-- two memories agree but on the places W -/
def offM (W : Nat → Nat → Prop) (M m : mm_M) : Prop := (∀ c j, ¬ W c j → m.1 c j = M.1 c j) ∧ (∀ c j, ¬ W c j → m.2.1 c j = M.2.1 c j) ∧ m.2.2 = M.2.2
theorem offM_rf {W : Nat → Nat → Prop} {M : mm_M} : offM W M M := ⟨fun _ _ _ => rfl, fun _ _ _ => rfl, rfl⟩
theorem offM_tr {W : Nat → Nat → Prop} {M m m' : mm_M} (h : offM W M m) (h' : offM W m m') : offM W M m' := ⟨fun c j q => (h'.1 c j q).trans (h.1 c j q), fun c j q => (h'.2.1 c j q).trans (h.2.1 c j q), h'.2.2.trans h.2.2⟩
theorem offM_mono {W W' : Nat → Nat → Prop} {M m : mm_M} (h : offM W M m) (hW : ∀ c j, W c j → W' c j) : offM W' M m := ⟨fun c j q => h.1 c j (fun z => q (hW c j z)), fun c j q => h.2.1 c j (fun z => q (hW c j z)), h.2.2⟩
theorem offM_cI {W : Nat → Nat → Prop} {M : mm_M} {a : Nat} {f : Nat → Int32} (hW : ∀ j, W a j) : offM W M (mm_cI M a f) := by
  refine ⟨fun c j q => ?_, fun _ _ _ => rfl, rfl⟩
  by_cases h : c = a
  · subst h; exact absurd (hW j) q
  · rw [cI_ne h]
theorem uI_at (M : mm_M) (a k : Nat) (x : Int32) : (mm_uI M a k x).1 a k = x := by rw [uI_cI, cI_self, upd, if_pos rfl]
theorem uI_j {M : mm_M} {a k j : Nat} {x : Int32} (h : j ≠ k) : (mm_uI M a k x).1 a j = M.1 a j := by rw [uI_cI, cI_self, upd, if_neg h]
theorem uI_c {M : mm_M} {a k c : Nat} {x : Int32} (h : c ≠ a) : (mm_uI M a k x).1 c = M.1 c := by rw [uI_cI, cI_ne h]
theorem uI_rd (M : mm_M) (a k c j : Nat) (x : Int32) : (mm_uI M a k x).1 c j = if c = a ∧ j = k then x else M.1 c j := by
  by_cases h : c = a
  · subst h
    by_cases hj : j = k
    · subst hj; rw [uI_at, if_pos ⟨rfl, rfl⟩]
    · rw [uI_j hj, if_neg (fun q => hj q.2)]
  · rw [uI_c h, if_neg (fun q => h q.1)]
theorem offM_uI {W : Nat → Nat → Prop} {M : mm_M} {a k : Nat} {x : Int32} (hW : W a k) : offM W M (mm_uI M a k x) := by
  refine ⟨fun c j q => ?_, fun _ _ _ => rfl, rfl⟩
  rw [uI_rd, if_neg]
  rintro ⟨rfl, rfl⟩
  exact q hW
/-- the class's scratch of the machine: facts and stack -/
def wM (c _j : Nat) : Prop := c = 31 ∨ c = 34
theorem cU_off {W : Nat → Nat → Prop} {r : Nat} {U : dU} {M m : mm_M} (h : cU r U M) (ho : offM W M m) (hW : ∀ c j, W c j → ¬ ((8 ≤ c ∧ c ≤ 15) ∨ (22 ≤ c ∧ c ≤ 29))) : cU r U m := by
  obtain ⟨h1, h2, h3, h4, h5, h6⟩ := h
  have hr := Rl_at h2
  have g0 : ∀ j, m.1 r j = M.1 r j := fun j => ho.1 _ _ (fun q => hW _ _ q (by omega))
  have g : ∀ i j, i ≤ 7 → m.1 (r + i) j = M.1 (r + i) j := fun i j hi => ho.1 _ _ (fun q => hW _ _ q (by omega))
  refine ⟨by rw [ho.2.2]; exact h1, h2, by rw [g0]; exact h3, by rw [g0]; exact h4, fun h hh => by rw [g 3 h (by omega)]; exact h5 h hh, fun k hk => ?_⟩
  obtain ⟨f, e, q1, q2, q3, q4, q5⟩ := h6 k hk
  exact ⟨f, e, by rw [g 6 k (by omega)]; exact q1, by rw [g 7 k (by omega)]; exact q2, q3, q4, fun j t ht => by rw [g 5 _ (by omega)]; exact q5 j t ht⟩
theorem cN_off {W : Nat → Nat → Prop} {a : Nat} {N : dN} {M m : mm_M} (h : cN a N M) (ho : offM W M m) (hW : ∀ c j, W c j → ¬ (a ≤ c ∧ c ≤ a + 3 ∧ ¬ (c = a ∧ 2 ≤ j))) : cN a N m := by
  obtain ⟨h1, h2, h3, h4, h5⟩ := h
  have g0 : ∀ j, j < 2 → m.1 a j = M.1 a j := fun j hj => ho.1 _ _ (fun q => hW _ _ q (by omega))
  have g : ∀ i j, 1 ≤ i → i ≤ 3 → m.1 (a + i) j = M.1 (a + i) j := fun i j hi hi2 => ho.1 _ _ (fun q => hW _ _ q (by omega))
  exact ⟨by rw [g0 0 (by omega)]; exact h1, by rw [g0 1 (by omega)]; exact h2, fun h hh => by rw [g 1 h (by omega) (by omega)]; exact h3 h hh, fun h hh => by rw [g 2 h (by omega) (by omega)]; exact h4 h hh, fun h k hh hk => by rw [g 3 _ (by omega) (by omega)]; exact h5 h k hh hk⟩
theorem vN_lt {U : dU} {N : dN} (hU : vU U) (hN : vN U N) : N.2.1 < 128 := Nat.lt_of_lt_of_le hN.2.1 (Nat.pow_le_pow_right (by omega) hU.2.1 : 2 ^ U.2.1 ≤ 2 ^ 7)
