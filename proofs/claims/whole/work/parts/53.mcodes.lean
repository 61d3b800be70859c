/-! the reference's codesTell -/
def repL (f : Nat → Int64) : List (Int × Bool) → Prop
  | [] => True
  | q :: r => (f r.length).toInt = q.1 ∧ repL f r
theorem repL_upd {f : Nat → Int64} {x : Int64} {k : Nat} : ∀ {s : List (Int × Bool)}, s.length ≤ k → repL f s → repL (vp_updL f k x) s
  | [], _, _ => trivial
  | q :: r, hl, h => by
    have hl' : r.length + 1 ≤ k := hl
    refine ⟨?_, repL_upd (by omega) h.2⟩
    rw [vp_updL, if_neg (by omega)]
    exact h.1
/-- a code that may stand in a duchy's rules -/
def vmc (c : Int) : Prop := (1 ≤ c ∧ c ≤ 13) ∨ (40 ≤ c ∧ c ≤ 47) ∨ (1000 ≤ c ∧ c ≤ 10999)
theorem opOf_in {c : Int} (h : 1 ≤ c) (h2 : c ≤ 11) : -11 ≤ opOf c ∧ opOf c ≤ -1 := by
  unfold opOf
  repeat' split
  all_goals omega
theorem wordOf_in (p : Int) : 2 ≤ wordOf p ∧ wordOf p ≤ 17 := by
  unfold wordOf
  repeat' split
  all_goals omega
set_option maxHeartbeats 4000000 in
theorem m_codes_loop {d w e : Nat} {x1 : Int32} {M : mm_M} {K : Int64 → mm_M → Prop} {F : Nat → Option Int} {OF : Int → Int → Option Int} {v : Int} {fl : Bool} (hG : mm_G M.2.2) (hw : w < 5) (he : M.1 197 (5 + w) = nI e) (he2 : e ≤ 1600)
    (hF : ∀ k v, F k = some v → okz v) (hO : ∀ t a v, OF t a = some v → okz v)
    (hQ : ∀ (x : Int32) (v : Int), 0 ≤ x.toInt ∧ x.toInt ≤ 7 → F (wordOf x.toInt).toNat = some v → ∀ (p : Nat → Int64) (n : Int32) (K : Int64 → mm_M → Prop), (∀ z : Int64, z.toInt = v → K z (mm_pq M p n)) → mm_CL mX12_qPartOf (d + 1) [.ref 164, .int x, .int (M.1 164 52)] (mm_pq M p n) K)
    (hK : ∀ (p : Nat → Int64) (n z : _), z.toInt = v → K z (mm_pq M p n)) :
    ∀ (ts : List Int) (s : List (Int × Bool)) (i : Nat) (p : Nat → Int64), i + ts.length = e → (∀ j t, ts[j]? = some t → vmc (M.1 198 (1600 + (i + j))).toInt ∧ tau (M.1 198 (1600 + (i + j))).toInt = t) → gs s → repL p s → s.length ≤ 64 → evl F OF ts s = some [(v, fl)] → jX12_codesTell_22 (d + 1) x1 (mm_pq M p (nI s.length)) K (nI w) (nI i) := by
  have h197 : ∀ p n, (mm_pq M p n).1 197 = M.1 197 := fun p n => pq_c (by decide)
  have h198 : ∀ p n, (mm_pq M p n).1 198 = M.1 198 := fun p n => pq_c (by decide)
  have h52 : ∀ p n, (mm_pq M p n).1 164 52 = M.1 164 52 := fun p n => pq_f _ _ _ (by decide)
  have hG' : ∀ p n, mm_G (mm_pq M p n).2.2 := fun p n => hG
  have e5 : 5 + nI w = nI (5 + w) := nI_add 5 w
  intro ts
  induction ts with
  | nil =>
    intro s i p hi hc hs hrep hl hev
    have hs1 : s = [(v, fl)] := Option.some.inj hev
    subst hs1
    refine lX12_codesTell_22 (hG' p _) ?_
    rw [e5, nI_clamp (n := 5 + w) (by omega), h197, he, if_pos (nI_le (by simp at hi; omega) (by omega)), pq_p]
    exact ⟨vp_in_nI (by omega) (by decide), hK p _ _ hrep.1⟩
  | cons t ts ih =>
    intro s i p hi hc hs hrep hl hev
    have hlen : i + (ts.length + 1) = e := hi
    obtain ⟨hv0, hc0⟩ := hc 0 t rfl
    have hcs : ∀ j t, ts[j]? = some t → vmc (M.1 198 (1600 + (i + 1 + j))).toInt ∧ tau (M.1 198 (1600 + (i + 1 + j))).toInt = t := fun j t h => by
      rw [show i + 1 + j = i + (j + 1) by omega]; exact hc (j + 1) t h
    obtain ⟨s', h1, h2⟩ := Option.bind_eq_some_iff.mp (show (e1 F OF t s).bind (evl F OF ts) = some [(v, fl)] from hev)
    have hs' := e1_good hF hO h1 hs
    have e16 : 1600 + nI i = nI (1600 + i) := nI_add 1600 i
    refine lX12_codesTell_22 (hG' p _) ?_
    rw [e5, nI_clamp (n := 5 + w) (by omega), h197, he, if_neg (nI_ge (a := i) (b := e) (by omega) (by omega)), e16, nI_clamp (n := 1600 + i) (by omega), h198, nI_1, pq_n, h52]
    refine ⟨vp_in_nI (by omega) (by decide), vp_in_nI (by omega) (by decide), ?_⟩
    have hv0 : vmc (M.1 198 (1600 + i)).toInt := hv0
    have hc0 : tau (M.1 198 (1600 + i)).toInt = t := hc0
    generalize M.1 198 (1600 + i) = c at hv0 hc0 ⊢
    have lt_ : ∀ (k : Int32) (n : Int), k.toInt = n → (c < k ↔ c.toInt < n) := fun k n hk => by rw [i32_lt, hk]
    have eq_ : ∀ (k : Int32) (n : Int), k.toInt = n → (c = k ↔ c.toInt = n) := fun k n hk => by rw [i32_eq, hk]
    have push : ∀ (z : Int64) (q : Int × Bool), s.length < 64 → z.toInt = q.1 → s' = q :: s → mm_CV mX12_qPuts (d + 1) [.ref 164, .long z] (mm_pq M p (nI s.length)) (fun m => jX12_codesTell_22 (d + 1) x1 m K (nI w) (nI (i + 1))) := by
      intro z q hl2 hz hq
      subst hq
      refine m_puts hG (by omega) ?_
      refine ih (q :: s) (i + 1) _ (by omega) hcs hs' ⟨?_, repL_upd (Nat.le_refl _) hrep⟩ hl2 h2
      rw [vp_updL, if_pos rfl, hz]
    unfold e1 at h1
    unfold vmc at hv0
    by_cases a1 : c < 1000
    · rw [if_pos a1]
      have a1' := (lt_ 1000 1000 rfl).mp a1
      by_cases a2 : c < 40
      · rw [if_pos a2]
        have a2' := (lt_ 40 40 rfl).mp a2
        by_cases a3 : c = 13
        · rw [if_pos a3]
          have a3' := (eq_ 13 13 rfl).mp a3
          have ht : t = 1 := by rw [← hc0, a3']; rfl
          subst ht
          rw [if_neg (by decide), if_pos (by decide)] at h1
          by_cases hl2 : s.length < 64
          · rw [if_pos hl2] at h1
            exact push 1 _ hl2 rfl (Option.some.inj h1).symm
          · rw [if_neg hl2] at h1; cases h1
        · rw [if_neg a3]
          have a3' := mt (eq_ 13 13 rfl).mpr a3
          by_cases a4 : c = 12
          · rw [if_pos a4]
            have a4' := (eq_ 12 12 rfl).mp a4
            have ht : t = -12 := by rw [← hc0, a4']; rfl
            subst ht
            rw [if_neg (by decide), if_neg (by decide), if_pos (by decide)] at h1
            match s, hs, hrep, hl, h1 with
            | [], _, _, _, h1 => cases h1
            | (a, f) :: r, hs, hrep, hl, h1 =>
              have hl : r.length + 1 ≤ 64 := hl
              have en : nI ((a, f) :: r).length - 1 = nI r.length := nI_pred r.length
              simp only [if_true] at h1
              by_cases hf : f = true
              · rw [if_pos hf] at h1
                have h1 : (1 - a, true) :: r = s' := Option.some.inj h1
                subst h1
                have ga := (hs (a, f) List.mem_cons_self).2 hf
                rw [en, nI_clamp (n := r.length) (by omega), pq_p, pq_uL]
                refine ⟨vp_in_nI (by omega) (by decide), vp_in_nI (by omega) (by decide), ?_⟩
                refine ih ((1 - a, true) :: r) (i + 1) _ (by omega) hcs hs' ⟨?_, repL_upd (Nat.le_refl _) hrep.2⟩ hl h2
                have hra : (p r.length).toInt = a := hrep.1
                rw [vp_updL, if_pos rfl, Int64.toInt_sub, hra]
                rcases ga with rfl | rfl <;> decide
              · rw [if_neg hf] at h1; cases h1
          · rw [if_neg a4]
            have a4' := mt (eq_ 12 12 rfl).mpr a4
            have hop : 1 ≤ c.toInt ∧ c.toInt ≤ 11 := by omega
            have ht : t = opOf c.toInt := by
              rw [← hc0, tau, if_neg (by omega), if_neg (by omega), if_neg (by omega), if_neg a3', if_neg a4']
            have hin := opOf_in hop.1 hop.2
            rw [← ht] at hin
            rw [if_neg (by omega), if_neg (by omega), if_neg (by omega)] at h1
            match s, hs, hrep, hl, h1 with
            | [], _, _, _, h1 => cases h1
            | [q], _, _, _, h1 => cases h1
            | (b, gb) :: (a, fa) :: r, hs, hrep, hl, h1 =>
              have hl : r.length + 1 + 1 ≤ 64 := hl
              simp only at h1
              by_cases h5 : (t = -8 ∨ t = -9) ∧ ¬ (fa = true ∧ gb = true)
              · rw [if_pos h5] at h1; cases h1
              · rw [if_neg h5, if_pos (by omega)] at h1
                have h1 : (jz t a b, decide (t ≤ -5 ∧ -9 ≤ t)) :: r = s' := Option.some.inj h1
                subst h1
                have hb := hs (b, gb) List.mem_cons_self
                have ha := hs (a, fa) (List.mem_cons_of_mem _ List.mem_cons_self)
                have hra : (p r.length).toInt = a := hrep.2.1
                have hrb : (p (r.length + 1)).toInt = b := hrep.1
                refine m_joins (n := r.length) hG (by omega) hop (by rw [hra]; exact ha.1) (by rw [hrb]; exact hb.1) (fun q => ?_) (fun z hz => ?_)
                · rw [← ht] at q
                  have : fa = true ∧ gb = true := Decidable.byContradiction fun z => h5 ⟨q, z⟩
                  rw [hra, hrb]
                  exact ⟨ha.2 this.1, hb.2 this.2⟩
                · rw [← ht, hra, hrb] at hz
                  refine ih (_ :: r) (i + 1) _ (by omega) hcs hs' ⟨?_, repL_upd (Nat.le_refl _) hrep.2.2⟩ (by show r.length + 1 ≤ 64; omega) h2
                  rw [vp_updL, if_pos rfl, hz]
      · rw [if_neg a2]
        have a2' := mt (lt_ 40 40 rfl).mpr a2
        have hm : (c - 40).toInt = c.toInt - 40 := by
          rw [Int32.toInt_sub]
          show (c.toInt - 40 : Int).bmod _ = _
          exact bm32 (by omega) (by omega)
        have hwd := wordOf_in (c.toInt - 40)
        have ht : t = 10000 + wordOf (c.toInt - 40) := by
          rw [← hc0, tau, if_neg (by omega), if_neg (by omega), if_pos (by omega)]
        rw [if_pos (by omega)] at h1
        by_cases hl2 : s.length < 64
        · rw [if_pos hl2] at h1
          cases hf : F (t - 10000).toNat with
          | none => rw [hf] at h1; cases h1
          | some q =>
            rw [hf] at h1
            refine hQ (c - 40) q (by omega) (by rw [hm, ← hf, ht]; congr 1; omega) p _ _ (fun z hz => ?_)
            exact push z (q, false) hl2 hz (Option.some.inj h1).symm
        · rw [if_neg hl2] at h1; cases h1
    · rw [if_neg a1]
      have a1' := mt (lt_ 1000 1000 rfl).mpr a1
      have ht : t = c.toInt - 1000 := by rw [← hc0, tau, if_pos (by omega)]
      rw [if_neg (by omega), if_pos (by omega)] at h1
      by_cases hl2 : s.length < 64
      · rw [if_pos hl2] at h1
        refine push _ _ hl2 ?_ (Option.some.inj h1).symm
        rw [Int32.toInt_toInt64, Int32.toInt_sub, ht]
        show (c.toInt - 1000 : Int).bmod _ = _
        exact bm32 (by omega) (by omega)
      · rw [if_neg hl2] at h1; cases h1
