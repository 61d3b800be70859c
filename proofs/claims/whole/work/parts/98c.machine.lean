/-! ===== the machine of sums ===== -/
abbrev sC : Type := Nat × Nat × List Nat × List Nat × Nat
def isS (T : dT) (q : Nat) (c : Int32) : Bool := decide (tkk T q = 3 ∧ T.1 q = c)
def xC (k p : Nat) : sC := (9, p, [], [], k)
/-- the part that a word tells, in a text of a kind -/
def prt (tk : Nat) (w : Int32) : Option Nat :=
  if w = 2 then (if tk = 2 then none else some 0) else if w = 3 then (if tk = 2 then none else some 1) else if w = 14 then (if tk = 2 then none else some 2) else
  if w = 13 then some 3 else if w = 6 then (if tk = 0 ∨ tk = 2 then some 4 else none) else if w = 15 then (if tk = 2 then some 5 else none) else
  if w = 16 then (if tk = 3 then some 6 else none) else if w = 17 then (if tk = 3 then some 7 else none) else none
def isBr (v : Nat) : Bool := decide (20 ≤ v ∧ v ≤ 24)
def isMu (v : Nat) : Bool := decide (v = 3 ∨ v = 4)
def isAM (v : Nat) : Bool := decide (1 ≤ v ∧ v ≤ 4)
def smA (T : dT) (tk q : Nat) (C S : List Nat) (o : Nat) : sC :=
  if isS T q 40 then (if o = 6 then xC 4 q else (0, nxt T q, C, 20 :: S, o + 1))
  else if wdn T q = 22 ∨ wdn T q = 23 then (if isS T (nxt T q) 40 then (if o = 6 then xC 4 (nxt T q) else (0, nxt T (nxt T q), C, (if wdn T q = 22 then 21 else 22) :: S, o + 1)) else xC 1 (nxt T q))
  else if tk = 3 ∧ (wdn T q = 6 ∨ wdn T q = 8) then (if o = 6 then xC 4 q else (0, nxt T q, C, (if wdn T q = 6 then 60 else 61) :: S, o + 1))
  else match prt tk (wdn T q) with
  | some p => (1, nxt T q, C ++ [40 + p], S, o)
  | none => if tkk T q = 2 then (if ten T q - q ≤ 4 then (1, nxt T q, C ++ [1000 + (vlu T q).toInt.toNat], S, o) else xC 1 (q + 4)) else xC 1 q
def smE (q : Nat) (C S : List Nat) (o : Nat) : sC := match S with
  | [] => (2, q, C, [], o)
  | v :: S' => if 60 ≤ v then (1, q, C ++ [v], S', o - 1) else (2, q, C, v :: S', o)
def brk (S : List Nat) : List Nat := S.dropWhile (fun v => !isBr v)
def ops (S : List Nat) : List Nat := S.takeWhile (fun v => !isBr v)
def smG (T : dT) (q : Nat) (C S : List Nat) (o : Nat) : sC :=
  if isS T q 41 = true ∧ ((brk S).head? = some 20 ∨ (brk S).head? = some 23 ∨ (brk S).head? = some 24) then (1, nxt T q, C ++ ops S ++ (if (brk S).head? = some 20 then [] else if (brk S).head? = some 23 then [5] else [6]), (brk S).tail, o - 1)
  else if isS T q 42 = true ∨ isS T q 47 = true then (0, nxt T q, C ++ S.takeWhile isMu, (if isS T q 42 then 3 else 4) :: S.dropWhile isMu, o)
  else if isS T q 43 = true ∨ isS T q 45 = true then (0, nxt T q, C ++ S.takeWhile isAM, (if isS T q 43 then 1 else 2) :: S.dropWhile isAM, o)
  else match brk S with
  | [] => (3, q, C ++ S, [], o)
  | v :: S' => if v = 21 ∨ v = 22 then (if isS T q 44 then (0, nxt T q, C ++ ops S, (v + 2) :: S', o) else xC 1 q) else xC 1 q
def stp (T : dT) (tk : Nat) (c : sC) : sC :=
  if c.1 = 0 then smA T tk c.2.1 c.2.2.1 c.2.2.2.1 c.2.2.2.2 else if c.1 = 1 then smE c.2.1 c.2.2.1 c.2.2.2.1 c.2.2.2.2 else if c.1 = 2 then smG T c.2.1 c.2.2.1 c.2.2.2.1 c.2.2.2.2 else c
def itr (T : dT) (tk : Nat) : Nat → sC → sC
  | 0, c => c
  | n + 1, c => itr T tk n (stp T tk c)
def str (T : dT) (tk : Nat) (c c' : sC) : Prop := ∃ n, itr T tk n c = c'
theorem str_rf {T : dT} {tk : Nat} {c : sC} : str T tk c c := ⟨0, rfl⟩
theorem itr_add {T : dT} {tk : Nat} : ∀ (n m : Nat) (c : sC), itr T tk (n + m) c = itr T tk m (itr T tk n c)
  | 0, m, c => by rw [Nat.zero_add]; rfl
  | n + 1, m, c => by
    rw [show n + 1 + m = (n + m) + 1 by omega]
    exact itr_add n m (stp T tk c)
theorem str_tr {T : dT} {tk : Nat} {a b c : sC} (h : str T tk a b) (h' : str T tk b c) : str T tk a c := by
  obtain ⟨n, rfl⟩ := h
  obtain ⟨m, rfl⟩ := h'
  exact ⟨n + m, itr_add n m a⟩
theorem str_1 {T : dT} {tk : Nat} {a b : sC} (h : stp T tk a = b) : str T tk a b := ⟨1, h⟩
/-! what a row of codes comes to -/
def alt (tk : Nat) : List Nat := if tk = 0 then alL else if tk = 1 then alH else if tk = 2 then alC else [13, 2, 3, 14, 16, 17]
def tas (cs : List Nat) : List Int := cs.map (fun (c : Nat) => tau (c : Int))
def vcd (tk c : Nat) : Prop := vmc (c : Int) ∨ (tk = 3 ∧ (c = 60 ∨ c = 61))
def evp (tk n : Nat) (b : Bool) (cs : List Nat) : Prop := (∀ c ∈ cs, vcd tk c) ∧ ∀ (F : Nat → Option Int) (OF : Int → Int → Option Int) (s : List (Int × Bool)), (∀ w ∈ alt tk, ∃ v, F w = some v) → (tk = 3 → ∀ t a, t = -13 ∨ t = -14 → ∃ v, OF t a = some v) → s.length + n ≤ 64 → ∃ v fl, evl F OF (tas cs) s = some ((v, fl) :: s) ∧ (b = true → fl = true)
theorem evl_app {F : Nat → Option Int} {OF : Int → Int → Option Int} : ∀ (xs ys : List Int) (s : List (Int × Bool)), evl F OF (xs ++ ys) s = (evl F OF xs s).bind (evl F OF ys)
  | [], ys, s => rfl
  | x :: xs, ys, s => by
    show (e1 F OF x s).bind (evl F OF (xs ++ ys)) = ((e1 F OF x s).bind (evl F OF xs)).bind (evl F OF ys)
    cases e1 F OF x s with
    | none => rfl
    | some s' => exact evl_app xs ys s'
theorem tas_app (a b : List Nat) : tas (a ++ b) = tas a ++ tas b := List.map_append
theorem evp_mono {tk n n' : Nat} {b : Bool} {cs : List Nat} (h : evp tk n b cs) (hn : n ≤ n') : evp tk n' b cs := ⟨h.1, fun F OF s h1 h2 h3 => h.2 F OF s h1 h2 (by omega)⟩
theorem evp_f {tk n : Nat} {b : Bool} {cs : List Nat} (h : evp tk n b cs) : evp tk n false cs := ⟨h.1, fun F OF s h1 h2 h3 => by
  obtain ⟨v, fl, q, -⟩ := h.2 F OF s h1 h2 h3
  exact ⟨v, fl, q, fun z => by cases z⟩⟩
theorem evp_num {tk v : Nat} (hv : v ≤ 9999) : evp tk 1 false [1000 + v] := by
  refine ⟨fun c hc => ?_, fun F OF s _ _ h3 => ?_⟩
  · rw [List.mem_singleton.mp hc]; exact Or.inl (Or.inr (Or.inr ⟨by omega, by omega⟩))
  · have et : tau ((1000 + v : Nat) : Int) = (v : Int) := by unfold tau; rw [if_pos (by omega)]; omega
    have : evl F OF (tas [1000 + v]) s = (e1 F OF (tau ((1000 + v : Nat) : Int)) s).bind some := rfl
    rw [this, et]
    unfold e1
    rw [if_neg (by omega), if_pos (by omega), if_pos (by omega)]
    exact ⟨_, _, rfl, fun z => by cases z⟩
theorem evp_all {tk : Nat} : evp tk 1 true [13] := by
  refine ⟨fun c hc => ?_, fun F OF s _ _ h3 => ?_⟩
  · rw [List.mem_singleton.mp hc]; exact Or.inl (Or.inl ⟨by omega, by omega⟩)
  · have et : tau ((13 : Nat) : Int) = 1 := by decide
    have : evl F OF (tas [13]) s = (e1 F OF (tau ((13 : Nat) : Int)) s).bind some := rfl
    rw [this, et]
    unfold e1
    rw [if_neg (by omega), if_pos (by omega), if_pos (by omega)]
    exact ⟨_, _, rfl, fun _ => by decide⟩
theorem prt_al0 : ∀ x, x < 960 → (prt (x / 240) (nI (x / 8 % 30)) = some (x % 8) → (tau ((40 + x % 8 : Nat) : Int) = 10000 + ((x / 8 % 30 : Nat) : Int) ∧ x / 8 % 30 ∈ alt (x / 240))) := by decide +kernel
theorem prt_al (tk : Nat) (ht : tk < 4) (w : Nat) (hw : w < 30) (p : Nat) (hp : p < 8) (h : prt tk (nI w) = some p) : tau ((40 + p : Nat) : Int) = 10000 + (w : Int) ∧ w ∈ alt tk := by
  have := prt_al0 (240 * tk + 8 * w + p) (by omega)
  rw [show (240 * tk + 8 * w + p) / 240 = tk by omega, show (240 * tk + 8 * w + p) / 8 % 30 = w by omega, show (240 * tk + 8 * w + p) % 8 = p by omega] at this
  exact this h
theorem prt_lt {tk : Nat} {w : Int32} {p : Nat} (h : prt tk w = some p) : p < 8 := by
  unfold prt at h
  repeat' split at h
  all_goals first | cases h; decide | cases h
theorem evp_fact {tk w p : Nat} (ht : tk < 4) (hw : w < 30) (h : prt tk (nI w) = some p) : evp tk 1 false [40 + p] := by
  have hp := prt_lt h
  obtain ⟨e1', e2⟩ := prt_al tk ht w hw p hp h
  refine ⟨fun c hc => ?_, fun F OF s h1 _ h3 => ?_⟩
  · rw [List.mem_singleton.mp hc]; exact Or.inl (Or.inr (Or.inl ⟨by omega, by omega⟩))
  · have : evl F OF (tas [40 + p]) s = (e1 F OF (tau ((40 + p : Nat) : Int)) s).bind some := rfl
    obtain ⟨v, hv⟩ := h1 w e2
    rw [this, e1']
    unfold e1
    rw [if_pos (by omega), if_pos (by omega), show (10000 + (w : Int) - 10000).toNat = w by omega, hv]
    exact ⟨_, _, rfl, fun z => by cases z⟩
theorem evp_bin {tk n1 n2 c : Nat} {b1 b2 : Bool} {c1 c2 : List Nat} (h1 : evp tk n1 b1 c1) (h2 : evp tk n2 b2 c2) (hc : 1 ≤ c ∧ c ≤ 11) (hb : 10 ≤ c → b1 = true ∧ b2 = true) : evp tk (max n1 (n2 + 1)) (decide (7 ≤ c)) (c1 ++ c2 ++ [c]) := by
  refine ⟨fun x hx => ?_, fun F OF s f1 f2 f3 => ?_⟩
  · rcases List.mem_append.mp hx with hx | hx
    · rcases List.mem_append.mp hx with hx | hx
      · exact h1.1 x hx
      · exact h2.1 x hx
    · rw [List.mem_singleton.mp hx]; exact Or.inl (Or.inl ⟨by omega, by omega⟩)
  · obtain ⟨v, fl, q1, w1⟩ := h1.2 F OF s f1 f2 (by omega)
    obtain ⟨v2, fl2, q2, w2⟩ := h2.2 F OF ((v, fl) :: s) f1 f2 (by show s.length + 1 + n2 ≤ 64; omega)
    rw [tas_app, tas_app, evl_app, evl_app, q1]
    show ∃ v' fl', ((evl F OF (tas c2) ((v, fl) :: s)).bind (evl F OF (tas [c]))) = some ((v', fl') :: s) ∧ _
    rw [q2]
    show ∃ v' fl', (e1 F OF (tau (c : Int)) ((v2, fl2) :: (v, fl) :: s)).bind some = some ((v', fl') :: s) ∧ _
    have et : ∀ c : Nat, c < 12 → 1 ≤ c → ¬ (10000 : Int) ≤ tau (c : Int) ∧ ¬ (0 : Int) ≤ tau (c : Int) ∧ ¬ tau (c : Int) ≤ -12 ∧ -11 ≤ tau (c : Int) ∧ ((tau (c : Int) = -8 ∨ tau (c : Int) = -9) → 10 ≤ c) ∧ (7 ≤ c → tau (c : Int) ≤ -5 ∧ -9 ≤ tau (c : Int)) := by decide
    obtain ⟨t1, t2, t3, t4, t5, t6⟩ := et c (by omega) hc.1
    generalize tau (c : Int) = t at t1 t2 t3 t4 t5 t6
    unfold e1
    rw [if_neg t1, if_neg t2, if_neg t3]
    show ∃ v' fl', (if (t = -8 ∨ t = -9) ∧ ¬ (fl = true ∧ fl2 = true) then none else (if -11 ≤ t then some ((jz t v v2, decide (t ≤ -5 ∧ -9 ≤ t)) :: s) else none)).bind some = some ((v', fl') :: s) ∧ _
    rw [if_neg (fun z => z.2 (by have := hb (t5 z.1); exact ⟨w1 this.1, w2 this.2⟩)), if_pos t4]
    exact ⟨_, _, rfl, fun z => decide_eq_true (t6 (of_decide_eq_true z))⟩
theorem evp_not {tk n : Nat} {cs : List Nat} (h : evp tk n true cs) : evp tk n true (cs ++ [12]) := by
  refine ⟨fun x hx => ?_, fun F OF s f1 f2 f3 => ?_⟩
  · rcases List.mem_append.mp hx with hx | hx
    · exact h.1 x hx
    · rw [List.mem_singleton.mp hx]; exact Or.inl (Or.inl ⟨by omega, by omega⟩)
  · obtain ⟨v, fl, q1, w1⟩ := h.2 F OF s f1 f2 f3
    have w1 := w1 rfl
    subst w1
    rw [tas_app, evl_app, q1]
    exact ⟨_, _, rfl, fun _ => rfl⟩
theorem evp_of {n c : Nat} {b : Bool} {cs : List Nat} (h : evp 3 n b cs) (hc : c = 60 ∨ c = 61) : evp 3 n false (cs ++ [c]) := by
  refine ⟨fun x hx => ?_, fun F OF s f1 f2 f3 => ?_⟩
  · rcases List.mem_append.mp hx with hx | hx
    · exact h.1 x hx
    · rw [List.mem_singleton.mp hx]; exact Or.inr ⟨rfl, hc⟩
  · obtain ⟨v, fl, q1, w1⟩ := h.2 F OF s f1 f2 f3
    rw [tas_app, evl_app, q1]
    show ∃ v' fl', (e1 F OF (tau (c : Int)) ((v, fl) :: s)).bind some = some ((v', fl') :: s) ∧ _
    have et : tau (c : Int) = -13 ∨ tau (c : Int) = -14 := by rcases hc with rfl | rfl <;> decide
    obtain ⟨v2, hv2⟩ := f2 rfl (tau (c : Int)) v et
    generalize tau (c : Int) = t at et hv2
    unfold e1
    rw [if_neg (by omega), if_neg (by omega), if_pos (by omega)]
    show ∃ v' fl', (if t = -12 then (if fl = true then some ((1 - v, true) :: s) else none) else (OF t v).map (fun v => (v, false) :: s)).bind some = some ((v', fl') :: s) ∧ _
    rw [if_neg (by omega), hv2]
    exact ⟨_, _, rfl, fun z => by cases z⟩
