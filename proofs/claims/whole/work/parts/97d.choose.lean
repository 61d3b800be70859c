/-! ===== tells: tastes that are alike ===== -/
def vKey (k : Option Int32) : Prop := ∀ t, k = some t → inI 0 99 t
def ciK (k : Option Int32) : Nat := match k with
  | none => 100
  | some t => t.toInt.toNat
def miK (k : Option Int32) : Nat := match k with
  | none => 0
  | some t => t.toInt.toNat + 1
theorem ciK_lt {k : Option Int32} (h : vKey k) : ciK k ≤ 100 ∧ miK k ≤ 100 := by
  cases k with
  | none => exact ⟨Nat.le_refl _, Nat.zero_le _⟩
  | some t =>
    have := h t rfl
    unfold inI at this
    show t.toInt.toNat ≤ 100 ∧ t.toInt.toNat + 1 ≤ 100
    omega
theorem ciK_inj {k k' : Option Int32} (h : vKey k) (h' : vKey k') : (ciK k = ciK k' → k = k') ∧ (miK k = miK k' → k = k') := by
  cases k with
  | none =>
    cases k' with
    | none => exact ⟨fun _ => rfl, fun _ => rfl⟩
    | some t =>
      have := h' t rfl
      unfold inI at this
      exact ⟨fun q => by have q : 100 = t.toInt.toNat := q; omega, fun q => by have q : 0 = t.toInt.toNat + 1 := q; omega⟩
  | some s =>
    have hs := h s rfl
    unfold inI at hs
    cases k' with
    | none => exact ⟨fun q => by have q : s.toInt.toNat = 100 := q; omega, fun q => by have q : s.toInt.toNat + 1 = 0 := q; omega⟩
    | some t =>
      have ht := h' t rfl
      unfold inI at ht
      refine ⟨fun q => ?_, fun q => ?_⟩
      · have q : s.toInt.toNat = t.toInt.toNat := q
        rw [i32_eq.mpr (show s.toInt = t.toInt by omega)]
      · have q : s.toInt.toNat + 1 = t.toInt.toNat + 1 := q
        rw [i32_eq.mpr (show s.toInt = t.toInt by omega)]
theorem keyA_v {U : dU} {N : dN} {h t e v : Nat} : vKey (keyA U N h t e v) := by
  intro x hx
  unfold keyA at hx
  obtain ⟨q, hq, rfl⟩ := Option.map_eq_some_iff.mp hx
  exact (serveA_b _ _ hq).2
def ctO (o : Option (Nat × Int32)) : Nat := ciK (o.map (·.2))
theorem ct_min {o : Option (Nat × Int32)} (ho : ∀ q, o = some q → inI 0 99 q.2) : (if 100 < taR true o then 100 else taR true o) = nI (ctO o) ∧ ctO o < 128 := by
  have e100 : (100 : Int32).toInt = 100 := rfl
  cases o with
  | none => exact ⟨by show (if (100 : Int32) < 255 then 100 else 255) = nI 100; decide, by show 100 < 128; decide⟩
  | some q =>
    have hq := ho q rfl
    unfold inI at hq
    show (if 100 < q.2 then 100 else q.2) = nI q.2.toInt.toNat ∧ q.2.toInt.toNat < 128
    rw [if_neg (fun z => by have := i32_lt.mp z; omega)]
    exact ⟨i32_nI hq.1, by omega⟩
def pk7 (f : Nat → Nat) : Nat → Nat
  | 0 => 0
  | i + 1 => pk7 f i + f i * 2 ^ (7 * i)
theorem pk7_lt {f : Nat → Nat} (hf : ∀ i, f i < 128) : ∀ i, pk7 f i < 2 ^ (7 * i)
  | 0 => Nat.one_pos
  | i + 1 => by
    have ih := pk7_lt hf i
    have h := hf i
    show pk7 f i + f i * 2 ^ (7 * i) < 2 ^ (7 * (i + 1))
    have e : 2 ^ (7 * (i + 1)) = 128 * 2 ^ (7 * i) := by rw [show 7 * (i + 1) = 7 + 7 * i by omega, Nat.pow_add]
    rw [e]
    have : f i * 2 ^ (7 * i) ≤ 127 * 2 ^ (7 * i) := Nat.mul_le_mul_right _ (by omega)
    omega
theorem pk7_at {f : Nat → Nat} (hf : ∀ i, f i < 128) {e : Nat} (he : e < 7) : pk7 f 7 / 2 ^ (7 * e) % 128 = f e := by
  have h0 := hf 0
  have h1 := hf 1
  have h2 := hf 2
  have h3 := hf 3
  have h4 := hf 4
  have h5 := hf 5
  have h6 := hf 6
  have ex : pk7 f 7 = f 0 + f 1 * 128 + f 2 * 16384 + f 3 * 2097152 + f 4 * 268435456 + f 5 * 34359738368 + f 6 * 4398046511104 := by
    simp only [pk7]
    omega
  rw [ex]
  match e, he with
  | 0, _ => show _ / 1 % 128 = _; omega
  | 1, _ => show _ / 128 % 128 = _; omega
  | 2, _ => show _ / 16384 % 128 = _; omega
  | 3, _ => show _ / 2097152 % 128 = _; omega
  | 4, _ => show _ / 268435456 % 128 = _; omega
  | 5, _ => show _ / 34359738368 % 128 = _; omega
  | 6, _ => show _ / 4398046511104 % 128 = _; omega
theorem sh7 : ∀ e, e < 7 → (((7 * nI e).toInt64 &&& 63).toBitVec.smod 64).toNat = 7 * e := by decide +kernel
theorem shl7 : ∀ e, e < 7 → ∀ a, a < 128 → ((nI a).toInt64 <<< ((7 * nI e).toInt64 &&& 63)) = lN (2 ^ (7 * e) * a) := by decide +kernel
theorem lN_or {P Q : Nat} (hP : P < 2 ^ 63) (hQ : Q < 2 ^ 63) : lN P ||| lN Q = lN (P ||| Q) := by
  have hPQ : P ||| Q < 2 ^ 63 := Nat.or_lt_two_pow hP hQ
  apply Int64.toBitVec_inj.mp
  apply BitVec.eq_of_toNat_eq
  show ((lN P).toBitVec ||| (lN Q).toBitVec).toNat = _
  rw [BitVec.toNat_or]
  have e1 : (lN P).toBitVec.toNat = P := Nat.mod_eq_of_lt (by omega)
  have e2 : (lN Q).toBitVec.toNat = Q := Nat.mod_eq_of_lt (by omega)
  have e3 : (lN (P ||| Q)).toBitVec.toNat = P ||| Q := Nat.mod_eq_of_lt (by omega)
  rw [e1, e2, e3]
theorem lN_127 {x : Nat} (h : x < 2 ^ 63) : lN x &&& 127 = lN (x % 128) := by
  apply Int64.toBitVec_inj.mp
  apply BitVec.eq_of_toNat_eq
  show ((lN x).toBitVec &&& (127 : Int64).toBitVec).toNat = _
  rw [BitVec.toNat_and]
  have e1 : (lN x).toBitVec.toNat = x := Nat.mod_eq_of_lt (by omega)
  have e2 : (127 : Int64).toBitVec.toNat = 2 ^ 7 - 1 := by decide
  have e3 : (lN (x % 128)).toBitVec.toNat = x % 128 := Nat.mod_eq_of_lt (by omega)
  rw [e1, e2, e3, Nat.and_two_pow_sub_one_eq_mod]
theorem lN_shr {P k : Nat} {s : Int64} (hP : P < 2 ^ 63) (hs : (s.toBitVec.smod 64).toNat = k) : lN P >>> s = lN (P / 2 ^ k) := by
  have hlt : P / 2 ^ k < 2 ^ 63 := Nat.lt_of_le_of_lt (Nat.div_le_self _ _) hP
  rw [i64_eq]
  show (BitVec.sshiftRight' (lN P).toBitVec (s.toBitVec.smod 64)).toInt = _
  rw [BitVec.toInt_sshiftRight', hs]
  show ((lN P).toInt >>> k) = _
  rw [Int.shiftRight_eq_div_pow, pk_lT hP, pk_lT hlt]
  push_cast
  rfl
theorem lor_pk {f : Nat → Nat} (hf : ∀ i, f i < 128) {e : Nat} (he : e < 7) : (lN (pk7 f e) ||| ((nI (f e)).toInt64 <<< ((7 * nI e).toInt64 &&& 63))) = lN (pk7 f (e + 1)) := by
  have h1 := pk7_lt hf e
  have h2 := pk7_lt hf (e + 1)
  have hb : 2 ^ (7 * e) ≤ 2 ^ 42 := Nat.pow_le_pow_right (by decide) (by omega)
  have hb2 : 2 ^ (7 * (e + 1)) ≤ 2 ^ 49 := Nat.pow_le_pow_right (by decide) (by omega)
  have hm : 2 ^ (7 * e) * f e + pk7 f e = pk7 f (e + 1) := by
    show _ = pk7 f e + f e * 2 ^ (7 * e)
    rw [Nat.mul_comm, Nat.add_comm]
  rw [shl7 e he _ (hf e), lN_or (by omega) (by omega), Nat.or_comm, ← Nat.two_pow_add_eq_or_of_lt h1, hm]
theorem get_pk {f : Nat → Nat} (hf : ∀ i, f i < 128) {e : Nat} (he : e < 7) : ((lN (pk7 f 7) >>> ((7 * nI e).toInt64 &&& 63)) &&& 127).toInt32 = nI (f e) := by
  have h1 := pk7_lt hf 7
  have hfe := hf e
  have hlt : pk7 f 7 / 2 ^ (7 * e) < 2 ^ 63 := Nat.lt_of_le_of_lt (Nat.div_le_self _ _) (by omega)
  rw [lN_shr (by omega) (sh7 e he), lN_127 hlt, pk7_at hf he, lN_I (by omega)]
def wTd (c _j : Nat) : Prop := c = 162
/-- the tastes that the class has packed, of a flour -/
def cTa (U : dU) (N : dN) (h D v : Nat) (m : mm_M) : Prop := ∀ t, t < D → m.2.1 162 (31 * v + t) = lN (pk7 (fun e => ctO (tasteAt U (supA N h v) t e)) 7)
theorem ctA_lt {U : dU} {X : dN} {t : Nat} : ∀ e, ctO (tasteAt U X t e) < 128 := fun e => (ct_min (o := tasteAt U X t e) (fun q hq => (serveA_b _ _ hq).2)).2
theorem c_tasteDays {d r h v D : Nat} {U : dU} {N : dN} {M : mm_M} {K : mm_M → Prop} (hG : mm_G M.2.2) (hU : cU r U M) (hX : cN 42 (supA N h v) M) (vu : vU U) (vn : vN U N) (hv : v < 100) (hD : D ≤ 31) (hK : ∀ m, offM (fun c j => wS 42 c j ∨ c = 162) M m → cTa U N h D v m → (∀ j, ¬ (31 * v ≤ j ∧ j < 31 * v + 31) → m.2.1 162 j = M.2.1 162 j) → K m) : mm_CV mX8_tasteDays (d + 5) [.ref 159, .ref 21, .ref 42, .int (nI v), .int (nI D)] M K := by
  have vx := supA_v (h := h) vn hv
  refine rX8_tasteDays st42 hG ?_
  have days : ∀ (k t : Nat) (m : mm_M), t + k = D → offM (fun c j => wS 42 c j ∨ c = 162) M m → cN 42 (daysC U 0 t (supA N h v)) m → cTa U N h t v m → (∀ j, ¬ (31 * v ≤ j ∧ j < 31 * v + 31) → m.2.1 162 j = M.2.1 162 j) → jX8_tasteDays_3 (d + 4) 42 (nI v) (nI D) m K (nI v) (nI D) (nI t) := by
    intro k
    induction k with
    | zero =>
      intro t m ht o hXt hT hn
      obtain rfl : t = D := by omega
      exact lX8_tasteDays_3 st42 (by rw [o.2.2]; exact hG) (ipos (nI_le (Nat.le_refl _) (by omega)) (hK m o hT hn))
    | succ k ih =>
      intro t m ht o hXt hT hn
      have hGm : mm_G m.2.2 := by rw [o.2.2]; exact hG
      refine lX8_tasteDays_3 st42 hGm (ineg (nI_ge (by omega) (by omega)) (ineg (nI_ge (b := 31) (by omega) (by decide)) ?_))
      refine c_run (rest := 0) (t := true) st42 hGm (cU_off hU o (fun c j q => by unfold wS at q; omega)) hXt vu (daysC_v vu vx t) (by decide) (fun m2 R => ?_)
      obtain ⟨o2, n2, -, t2, -, -⟩ := R
      have hG2 : mm_G m2.2.2 := by rw [o2.2.2]; exact hGm
      have e31 : nI v * 31 = nI (31 * v) := by
        have : nI v * 31 = nI (v * 31) := pk_mul v 31
        rw [this, Nat.mul_comm]
      have pack : ∀ (q e : Nat), e + q = 7 → jX8_tasteDays_30 (d + 4) 42 (nI v) (nI D) m2 K (nI v) (nI D) (nI t) (lN (pk7 (fun e => ctO (tasteAt U (supA N h v) t e)) e)) (nI e) := by
        intro q
        induction q with
        | zero =>
          intro e he
          obtain rfl : e = 7 := by omega
          refine lX8_tasteDays_30 st42 hG2 (ipos (by decide) ?_)
          rw [e31, nI_add, nI_clamp (by omega), nI_1]
          have o3 : offM (fun c _ => c = 162) m2 (mm_uL m2 162 (31 * v + t) (lN (pk7 (fun e => ctO (tasteAt U (supA N h v) t e)) 7))) := offM_uL rfl
          have hrd : ∀ j, (mm_uL m2 162 (31 * v + t) (lN (pk7 (fun e => ctO (tasteAt U (supA N h v) t e)) 7))).2.1 162 j = if j = 31 * v + t then lN (pk7 (fun e => ctO (tasteAt U (supA N h v) t e)) 7) else m2.2.1 162 j := fun j => by
            by_cases c : j = 31 * v + t
            · subst c; rw [uL_at, if_pos rfl]
            · rw [if_neg c]
              simp [mm_uL, va_up, vp_updL, c]
          refine ⟨vp_in_nI (by omega) (by decide), ih (t + 1) _ (by omega) (offM_tr o (offM_tr (offM_mono o2 (fun c j q => Or.inl q)) (offM_mono o3 (fun c j q => Or.inr q)))) (cN_off n2 o3 (fun c j q => by omega)) (fun s hs => ?_) (fun j hj => ?_)⟩
          · rw [hrd]
            by_cases c : s = t
            · subst c; rw [if_pos rfl]
            · rw [if_neg (by omega), o2.2.1 _ _ (by unfold wS; omega)]; exact hT s (by omega)
          · rw [hrd, if_neg (by omega), o2.2.1 _ _ (by unfold wS; omega)]; exact hn j hj
        | succ q ihq =>
          intro e he
          have he7 : e < 7 := by omega
          have ho : ∀ q, tasteAt U (supA N h v) t e = some q → inI 0 99 q.2 := fun q hq => (serveA_b _ _ hq).2
          refine lX8_tasteDays_30 st42 hG2 (ineg (lt7 he7) ⟨vp_in_nI he7 (by decide), ?_⟩)
          rw [nI_clamp (by omega), t2 e he7]
          have em := (ct_min ho).1
          unfold tasteAt at em
          rw [em, nI_1]
          have := lor_pk (f := fun e => ctO (tasteAt U (supA N h v) t e)) ctA_lt he7
          unfold tasteAt at this
          rw [show (lN (pk7 (fun e => ctO (tasteAt U (supA N h v) t e)) e)) = lN (pk7 (fun e => ctO ((serveA U (daysC U 0 t (supA N h v)) 0).2.2.1 e)) e) from rfl, this]
          exact ihq (e + 1) (by omega)
      exact pack 7 0 (by omega)
  exact days D 0 M (by omega) offM_rf hX (fun t ht => by omega) (fun j _ => rfl)
theorem likeS_le {f : Nat → Option Int32} : ∀ (l : List Nat) (X : (Option Int32 → Nat) × Nat) (n : Nat), (∀ k, X.1 k ≤ n) → X.2 ≤ n → (∀ k, (l.foldl (likeS f) X).1 k ≤ n + l.length) ∧ (l.foldl (likeS f) X).2 ≤ n + l.length
  | [], X, n, h1, h2 => ⟨h1, h2⟩
  | v :: l, X, n, h1, h2 => by
    rw [List.foldl_cons]
    have := likeS_le (f := f) l (likeS f X v) (n + 1) (fun k => by
      show (if k = f v then X.1 k + 1 else X.1 k) ≤ n + 1
      have := h1 k
      split <;> omega) (by
      show max X.2 (X.1 (f v) + 1) ≤ n + 1
      have := h1 (f v)
      omega)
    rw [List.length_cons]
    exact ⟨fun k => by have := this.1 k; omega, by omega⟩
theorem fit_foldl {U : dU} {N : dN} {S : dSE} {h v : Nat} {f : Nat → Option Int32} {X : (Option Int32 → Nat) × Nat} : (fitTo U N S h (v + 1)).foldl (likeS f) X = if fitA U N S h v then likeS f ((fitTo U N S h v).foldl (likeS f) X) v else (fitTo U N S h v).foldl (likeS f) X := by
  rw [fitTo_1]
  split
  · rw [List.foldl_append]; rfl
  · rfl
theorem c_mostAlike {d h t e D : Nat} {U : dU} {N : dN} {S : dSE} {M : mm_M} {K : Int32 → mm_M → Prop} (hG : mm_G M.2.2) (ht : t < D) (hD : D ≤ 31) (he : e < 7) (h161 : ∀ v, v < 100 → M.1 161 v = if fitA U N S h v then 1 else 0) (hT : ∀ v, v < 100 → fitA U N S h v = true → cTa U N h D v M) (hK : ∀ m, offM (fun c _ => c = 163) M m → K (nI (mostA U N S h t e)) m) : mm_CI mX8_mostAlike (d + 1) [.ref 159, .int (nI t), .int (nI e)] M K := by
  refine rX8_mostAlike hG (c_fill (r0 := 163) (n0 := 128) rfl (by decide) hG (fun m1 o1 z1 => ?_))
  have e31 : ∀ v, nI v * 31 + nI t = nI (31 * v + t) := fun v => by
    have : nI v * 31 = nI (v * 31) := pk_mul v 31
    rw [this, nI_add, Nat.mul_comm]
  have loop : ∀ (k v : Nat) (m : mm_M), v + k = 100 → offM (fun c _ => c = 163) M m → (∀ q, vKey q → m.1 163 (ciK q) = nI (((fitTo U N S h v).foldl (likeS (keyA U N h t e)) (fun _ => 0, 0)).1 q)) → jX8_mostAlike_13 d (nI t) (nI e) m K (nI t) (nI e) (nI ((fitTo U N S h v).foldl (likeS (keyA U N h t e)) (fun _ => 0, 0)).2) (nI v) := by
    intro k
    induction k with
    | zero =>
      intro v m hk o hq
      obtain rfl : v = 100 := by omega
      exact lX8_mostAlike_13 (by rw [o.2.2]; exact hG) (ipos (by decide) (hK m o))
    | succ k ih =>
      intro v m hk o hq
      have hlen := fitTo_len (U := U) (N := N) (S := S) (h := h) (n := v)
      have hle := likeS_le (f := keyA U N h t e) (fitTo U N S h v) (fun _ => 0, 0) 0 (fun _ => Nat.le_refl _) (Nat.le_refl _)
      have ff := fit_foldl (U := U) (N := N) (S := S) (h := h) (v := v) (f := keyA U N h t e) (X := (fun _ => 0, 0))
      have ih := ih (v + 1)
      rw [ff] at ih
      generalize (fitTo U N S h v).foldl (likeS (keyA U N h t e)) (fun _ => 0, 0) = X at hq hle ih ⊢
      refine lX8_mostAlike_13 (by rw [o.2.2]; exact hG) (ineg (nI_ge (b := 100) (by omega) (by decide)) (ineg (nI_pos (by omega)) (ineg (nI_ge (b := 31) (by omega) (by decide)) ⟨vp_in_nI (by omega) (by decide), ?_⟩)))
      rw [nI_clamp (n := v) (by omega), o.1 161 v (by omega), h161 v (by omega), nI_1 v]
      by_cases cf : fitA U N S h v = true
      · rw [if_pos cf] at ih ⊢
        have hk' := keyA_v (U := U) (N := N) (h := h) (t := t) (e := e) (v := v)
        have hcl := (ciK_lt hk').1
        have eg : ((m.2.1 162 (31 * v + t) >>> ((7 * nI e).toInt64 &&& 63)) &&& 127).toInt32 = nI (ciK (keyA U N h t e v)) := by
          rw [o.2.1 _ _ (by omega), hT v (by omega) cf t ht]
          exact get_pk ctA_lt he
        have hx := hq _ hk'
        have hb := hle.1 (keyA U N h t e v)
        refine ineg (by decide) ?_
        rw [e31, nI_clamp (n := 31 * v + t) (by omega), eg, nI_clamp (n := ciK (keyA U N h t e v)) (by omega), hx, uI_at, nI_1]
        refine ⟨vp_in_nI (by omega) (by decide), vp_in_nI (by omega) (by decide), vp_in_nI (by omega) (by decide), vp_in_nI (by omega) (by decide), ?_⟩
        have em : (if nI X.2 < nI (X.1 (keyA U N h t e v) + 1) then nI (X.1 (keyA U N h t e v) + 1) else nI X.2) = nI (likeS (keyA U N h t e) X v).2 := by
          show _ = nI (max X.2 (X.1 (keyA U N h t e v) + 1))
          by_cases c : X.2 < X.1 (keyA U N h t e v) + 1
          · rw [if_pos (nI_lt c (by omega)), Nat.max_eq_right (by omega)]
          · rw [if_neg (nI_nlt (by omega) (by omega)), Nat.max_eq_left (by omega)]
        rw [em]
        refine ih _ (by omega) (offM_tr o (offM_uI rfl)) (fun q hvq => ?_)
        show _ = nI (if q = keyA U N h t e v then X.1 q + 1 else X.1 q)
        by_cases c : q = keyA U N h t e v
        · subst c; rw [uI_at, if_pos rfl]
        · rw [uI_j (fun z => c ((ciK_inj hvq hk').1 z)), if_neg c]; exact hq q hvq
      · rw [if_neg cf] at ih ⊢
        exact ipos rfl (ih m (by omega) o hq)
  refine loop 100 0 m1 (by omega) o1 (fun q hvq => ?_)
  have := (ciK_lt hvq).1
  rw [z1 _ (by omega)]
  rfl
