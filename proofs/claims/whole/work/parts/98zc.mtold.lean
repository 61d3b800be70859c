/-! ===== the reference: what a question's codes tell of a house ===== -/
set_option maxHeartbeats 4000000 in
theorem m_told_loop {d e : Nat} {x1 w : Int32} {M : mm_M} {K : Int64 → mm_M → Prop} {F : Nat → Option Int} {OF : Int → Int → Option Int} {v : Int} {fl : Bool} (hG : mm_G M.2.2) (he : M.1 164 105 = nI e) (he2 : e ≤ 1600)
    (hF : ∀ k v, F k = some v → okz v) (hO : ∀ t a v, OF t a = some v → okz v)
    (hQ : ∀ (x : Int32) (v : Int), 0 ≤ x.toInt ∧ x.toInt ≤ 7 → F (wordOf x.toInt).toNat = some v → ∀ (p : Nat → Int64) (n : Int32) (K : Int64 → mm_M → Prop), (∀ z : Int64, z.toInt = v → K z (mm_pq M p n)) → mm_CL mX12_qPartOf (d + 1) [.ref 164, .int x, .int w] (mm_pq M p n) K)
    (hP : ∀ (x : Int32) (y : Int64) (v : Int), (x = 0 ∧ OF (-13) y.toInt = some v) ∨ (x = 1 ∧ OF (-14) y.toInt = some v) → ∀ (p : Nat → Int64) (n : Int32) (K : Int64 → mm_M → Prop), (∀ z : Int64, z.toInt = v → K z (mm_pq M p n)) → mm_CL mX12_qOf (d + 1) [.ref 164, .int x, .long y, .int w] (mm_pq M p n) K)
    (hK : ∀ (p : Nat → Int64) (n z : _), z.toInt = v → K z (mm_pq M p n)) :
    ∀ (cs : List Nat) (s : List (Int × Bool)) (i : Nat) (p : Nat → Int64), i + cs.length = e → (∀ (j c : Nat), cs[j]? = some c → vcd 3 c ∧ M.1 239 (i + j) = nI c) → gs s → repL p s → s.length ≤ 64 → evl F OF (tas cs) s = some [(v, fl)] → jX12_qTold_7 (d + 1) x1 (mm_pq M p (nI s.length)) K w (nI i) := by
  have h239 : ∀ p n, (mm_pq M p n).1 239 = M.1 239 := fun p n => pq_c (by decide)
  have h105 : ∀ p n, (mm_pq M p n).1 164 105 = M.1 164 105 := fun p n => pq_f _ _ _ (by decide)
  have hG' : ∀ p n, mm_G (mm_pq M p n).2.2 := fun p n => hG
  have ck : ∀ v : Int, okz v → clz v = v := fun v h => by
    unfold okz at h
    unfold clz
    rw [if_pos h.2, if_pos h.1]
  intro cs
  induction cs with
  | nil =>
    intro s i p hi hc hs hrep hl hev
    have hs1 : s = [(v, fl)] := Option.some.inj hev
    subst hs1
    refine lX12_qTold_7 (hG' p _) ?_
    rw [h105, he, if_pos (nI_le (by simp at hi; omega) (by omega)), pq_p]
    exact hK p _ _ hrep.1
  | cons c0 cs ih =>
    intro s i p hi hc hs hrep hl hev
    have hlen : i + (cs.length + 1) = e := hi
    obtain ⟨hv0, hc0⟩ := hc 0 c0 rfl
    have hcs : ∀ (j c : Nat), cs[j]? = some c → vcd 3 c ∧ M.1 239 (i + 1 + j) = nI c := fun j t h => by
      rw [show i + 1 + j = i + (j + 1) by omega]; exact hc (j + 1) t h
    obtain ⟨s', h1, h2⟩ := Option.bind_eq_some_iff.mp (show (e1 F OF (tau (c0 : Int)) s).bind (evl F OF (tas cs)) = some [(v, fl)] from hev)
    have hs' := e1_good hF hO h1 hs
    have hc0 : M.1 239 i = nI c0 := hc0
    have hvb : c0 ≤ 10999 := by
      unfold vcd vmc at hv0
      omega
    have hct : (nI c0).toInt = (c0 : Int) := nI_toInt (by omega)
    refine lX12_qTold_7 (hG' p _) ?_
    rw [h105, he, if_neg (nI_ge (a := i) (b := e) (by omega) (by omega)), nI_clamp (n := i) (by omega), h239, nI_1, pq_n, hc0]
    refine ⟨vp_in_nI (by omega) (by decide), ?_⟩
    have hv1 : vcd 3 c0 := hv0
    unfold vcd vmc at hv0
    generalize nI c0 = c at hct ⊢
    have lt_ : ∀ (k : Int32) (n : Int), k.toInt = n → (c < k ↔ c.toInt < n) := fun k n hk => by rw [i32_lt, hk]
    have eq_ : ∀ (k : Int32) (n : Int), k.toInt = n → (c = k ↔ c.toInt = n) := fun k n hk => by rw [i32_eq, hk]
    have push : ∀ (z : Int64) (q : Int × Bool), s.length < 64 → z.toInt = q.1 → s' = q :: s → mm_CV mX12_qPuts (d + 1) [.ref 164, .long z] (mm_pq M p (nI s.length)) (fun m => jX12_qTold_7 (d + 1) x1 m K w (nI (i + 1))) := by
      intro z q hl2 hz hq
      subst hq
      refine m_puts hG (by omega) ?_
      refine ih (q :: s) (i + 1) _ (by omega) hcs hs' ⟨?_, repL_upd (Nat.le_refl _) hrep⟩ hl2 h2
      rw [vp_updL, if_pos rfl, hz]
    generalize ht0 : tau (c0 : Int) = t at h1
    unfold e1 at h1
    by_cases a1 : c < 1000
    · rw [if_pos a1]
      have a1' := (lt_ 1000 1000 rfl).mp a1
      by_cases a6 : c < 60
      · rw [if_pos a6]
        have a6' := (lt_ 60 60 rfl).mp a6
        by_cases a2 : c < 40
        · rw [if_pos a2]
          have a2' := (lt_ 40 40 rfl).mp a2
          by_cases a3 : c = 13
          · rw [if_pos a3]
            have a3' := (eq_ 13 13 rfl).mp a3
            have ht : t = 1 := by rw [← ht0, ← hct, a3']; rfl
            subst ht
            rw [if_neg (by decide), if_pos (by decide)] at h1
            by_cases hl2 : s.length < 64
            · rw [if_pos hl2] at h1
              exact push 1 _ hl2 rfl (Option.some.inj h1).symm
            · rw [if_neg hl2] at h1; cases h1
          · rw [if_neg a3]
            have a3' := mt (eq_ 13 13 rfl).mpr a3
            by_cases a4 : c = 12
            · rw [if_pos a4]
              have a4' := (eq_ 12 12 rfl).mp a4
              have ht : t = -12 := by rw [← ht0, ← hct, a4']; rfl
              subst ht
              rw [if_neg (by decide), if_neg (by decide), if_pos (by decide)] at h1
              match s, hs, hrep, hl, h1 with
              | [], _, _, _, h1 => cases h1
              | (a, f) :: r, hs, hrep, hl, h1 =>
                have hl : r.length + 1 ≤ 64 := hl
                have en : nI ((a, f) :: r).length - 1 = nI r.length := nI_pred r.length
                simp only [if_true] at h1
                by_cases hf : f = true
                · rw [if_pos hf] at h1
                  have h1 : (1 - a, true) :: r = s' := Option.some.inj h1
                  subst h1
                  have ga := (hs (a, f) List.mem_cons_self).2 hf
                  rw [en, nI_clamp (n := r.length) (by omega), pq_p, pq_uL]
                  refine ⟨vp_in_nI (by omega) (by decide), vp_in_nI (by omega) (by decide), ?_⟩
                  refine ih ((1 - a, true) :: r) (i + 1) _ (by omega) hcs hs' ⟨?_, repL_upd (Nat.le_refl _) hrep.2⟩ hl h2
                  have hra : (p r.length).toInt = a := hrep.1
                  rw [vp_updL, if_pos rfl, Int64.toInt_sub, hra]
                  rcases ga with rfl | rfl <;> decide
                · rw [if_neg hf] at h1; cases h1
            · rw [if_neg a4]
              have a4' := mt (eq_ 12 12 rfl).mpr a4
              have hop : 1 ≤ c.toInt ∧ c.toInt ≤ 11 := by omega
              have ht : t = opOf c.toInt := by
                rw [← ht0, ← hct, tau, if_neg (by omega), if_neg (by omega), if_neg (by omega), if_neg a3', if_neg a4']
              have hin := opOf_in hop.1 hop.2
              rw [← ht] at hin
              rw [if_neg (by omega), if_neg (by omega), if_neg (by omega)] at h1
              match s, hs, hrep, hl, h1 with
              | [], _, _, _, h1 => cases h1
              | [q], _, _, _, h1 => cases h1
              | (b, gb) :: (a, fa) :: r, hs, hrep, hl, h1 =>
                have hl : r.length + 1 + 1 ≤ 64 := hl
                simp only at h1
                by_cases h5 : (t = -8 ∨ t = -9) ∧ ¬ (fa = true ∧ gb = true)
                · rw [if_pos h5] at h1; cases h1
                · rw [if_neg h5, if_pos (by omega)] at h1
                  have h1 : (jz t a b, decide (t ≤ -5 ∧ -9 ≤ t)) :: r = s' := Option.some.inj h1
                  subst h1
                  have hb := hs (b, gb) List.mem_cons_self
                  have ha := hs (a, fa) (List.mem_cons_of_mem _ List.mem_cons_self)
                  have hra : (p r.length).toInt = a := hrep.2.1
                  have hrb : (p (r.length + 1)).toInt = b := hrep.1
                  refine m_joins (n := r.length) hG (by omega) hop (by rw [hra]; exact ha.1) (by rw [hrb]; exact hb.1) (fun q => ?_) (fun z hz => ?_)
                  · rw [← ht] at q
                    have : fa = true ∧ gb = true := Decidable.byContradiction fun z => h5 ⟨q, z⟩
                    rw [hra, hrb]
                    exact ⟨ha.2 this.1, hb.2 this.2⟩
                  · rw [← ht, hra, hrb] at hz
                    refine ih (_ :: r) (i + 1) _ (by omega) hcs hs' ⟨?_, repL_upd (Nat.le_refl _) hrep.2.2⟩ (by show r.length + 1 ≤ 64; omega) h2
                    rw [vp_updL, if_pos rfl, hz]
        · rw [if_neg a2]
          have a2' := mt (lt_ 40 40 rfl).mpr a2
          have hm : (c - 40).toInt = c.toInt - 40 := by
            rw [Int32.toInt_sub]
            show (c.toInt - 40 : Int).bmod _ = _
            exact bm32 (by omega) (by omega)
          have hwd := wordOf_in (c.toInt - 40)
          have ht : t = 10000 + wordOf (c.toInt - 40) := by
            rw [← ht0, ← hct, tau, if_neg (by omega), if_neg (by omega), if_pos (by omega)]
          rw [if_pos (by omega)] at h1
          by_cases hl2 : s.length < 64
          · rw [if_pos hl2] at h1
            cases hf : F (t - 10000).toNat with
            | none => rw [hf] at h1; cases h1
            | some q =>
              rw [hf] at h1
              refine hQ (c - 40) q (by omega) (by rw [hm, ← hf, ht]; congr 1; omega) p _ _ (fun z hz => ?_)
              refine m_clip (M := mm_pq M p (nI s.length)) hG (fun z2 hz2 => push z2 (q, false) hl2 ?_ (Option.some.inj h1).symm)
              rw [hz2, hz, ck q (hF _ _ hf)]
          · rw [if_neg hl2] at h1; cases h1
      · rw [if_neg a6]
        have a6' := mt (lt_ 60 60 rfl).mpr a6
        have hc6 : c.toInt = 60 ∨ c.toInt = 61 := by omega
        have ht : (c - 60 = 0 ∧ t = -13) ∨ (c - 60 = 1 ∧ t = -14) := by
          rcases hc6 with z | z
          · have : c = 60 := i32_eq.mpr z
            rw [this]
            exact Or.inl ⟨rfl, by rw [← ht0, ← hct, z]; rfl⟩
          · have : c = 61 := i32_eq.mpr z
            rw [this]
            exact Or.inr ⟨rfl, by rw [← ht0, ← hct, z]; rfl⟩
        rw [if_neg (by omega), if_neg (by omega), if_pos (by omega)] at h1
        match s, hs, hrep, hl, h1 with
        | [], _, _, _, h1 => cases h1
        | (a, f) :: r, hs, hrep, hl, h1 =>
          have hl : r.length + 1 ≤ 64 := hl
          have en : nI ((a, f) :: r).length - 1 = nI r.length := nI_pred r.length
          have h1 : (if t = -12 then (if f = true then some ((1 - a, true) :: r) else none) else (OF t a).map (fun v => (v, false) :: r)) = some s' := h1
          rw [if_neg (by omega)] at h1
          obtain ⟨q, hq1, hq2⟩ := Option.map_eq_some_iff.mp h1
          subst hq2
          have hra : (p r.length).toInt = a := hrep.1
          rw [en, nI_clamp (n := r.length) (by omega), pq_p]
          refine ⟨vp_in_nI (by omega) (by decide), hP (c - 60) (p r.length) q ?_ p _ _ (fun z hz => m_clip (M := mm_pq M p _) hG (fun z2 hz2 => ⟨vp_in_nI (by omega) (by decide), ?_⟩))⟩
          · rw [hra]
            rcases ht with ⟨z1, z2⟩ | ⟨z1, z2⟩
            · rw [z2] at hq1; exact Or.inl ⟨z1, hq1⟩
            · rw [z2] at hq1; exact Or.inr ⟨z1, hq1⟩
          · rw [pq_uL]
            refine ih ((q, false) :: r) (i + 1) _ (by omega) hcs hs' ⟨?_, repL_upd (Nat.le_refl _) hrep.2⟩ hl h2
            rw [vp_updL, if_pos rfl, hz2, hz, ck q (hO _ _ _ hq1)]
    · rw [if_neg a1]
      have a1' := mt (lt_ 1000 1000 rfl).mpr a1
      have ht : t = c.toInt - 1000 := by rw [← ht0, ← hct, tau, if_pos (by omega)]
      rw [if_neg (by omega), if_pos (by omega)] at h1
      by_cases hl2 : s.length < 64
      · rw [if_pos hl2] at h1
        refine push _ _ hl2 ?_ (Option.some.inj h1).symm
        rw [Int32.toInt_toInt64, Int32.toInt_sub, ht]
        show (c.toInt - 1000 : Int).bmod _ = _
        exact bm32 (by omega) (by omega)
      · rw [if_neg hl2] at h1; cases h1
def wTz (c j : Nat) : Prop := (c = 164 ∧ j = 111) ∨ c = 241
theorem hate_out {U : dU} {N : dN} (vn : vN U N) {h k : Nat} (hk : U.2.1 ≤ k) : N.2.2.2.2 h k = 0 := by
  have h1 := vn.2.2.2.2.1 h k
  have h2 := vn.2.2.2.2.2.2.2 h k
  by_cases c : 0 < N.2.2.2.2 h k
  · have := (h2 c).2
    have hlt : N.2.1 < 2 ^ k := Nat.lt_of_lt_of_le vn.2.1 (Nat.pow_le_pow_right (by decide) hk)
    rw [Nat.testBit_lt_two_pow hlt] at this
    cases this
  · refine i32_eq.mpr ?_
    have c := mt i32_lt.mpr c
    unfold inI at h1
    have z0 : (0 : Int32).toInt = 0 := rfl
    omega
theorem m_toldQ {d h : Nat} {U : dU} {N : dN} {C : List Nat} {M : mm_M} {K : Int64 → mm_M → Prop} {v : Int} {fl : Bool} (hG : mm_G M.2.2) (hU : mU U M) (hN : mN N M) (vu : vU U) (vn : vN U N) (hh : h < U.2.1) (h105 : M.1 164 105 = nI C.length) (hc : ∀ (j c : Nat), C[j]? = some c → M.1 239 j = nI c) (hC : C.length ≤ 1600) (hvc : ∀ c ∈ C, vcd 3 c) (h52 : M.1 164 52 = nI h) (h53 : M.1 164 53 = nI h) (ht : ∀ i v : Nat, i < U.2.1 → v < U.2.1 → M.2.1 201 (7 * i + v) = (tQ U N i v).toInt64) (hev : evl (fQ U N h) (ofQ U N h) (tas C) [] = some [(v, fl)]) (hK : ∀ m (z : Int64), offM wTz M m → z.toInt = v → K z m) : mm_CL mX12_qTold (d + 6) [.ref 164, .int (nI h)] M K := by
  have hu7 := vu.2.1
  refine rX12_qTold hG ?_
  have o1 : offM wTz M (mm_uI M 164 111 0) := offM_uI (Or.inl ⟨rfl, rfl⟩)
  have g111 : (mm_uI M 164 111 0).1 164 111 = nI 0 := uI_at _ _ _ _
  generalize mm_uI M 164 111 0 = m at o1 g111 ⊢
  have hGm : mm_G m.2.2 := by rw [o1.2.2]; exact hG
  have stp : ∀ m2, offM wTz M m2 → mm_G m2.2.2 ∧ mU U m2 ∧ mN N m2 := fun m2 o => ⟨by rw [o.2.2]; exact hG, mU_off hU o (fun c j q => by unfold wTz at q; omega), mN_off hN o (fun c j q => by unfold wTz at q; omega)⟩
  have opq : ∀ p n, offM wTz M (mm_pq m p n) := fun p n => offM_tr o1 (offM_pq (Or.inl ⟨rfl, rfl⟩) (fun _ => Or.inr rfl))
  have hF := fQ_ok (U := U) (N := N) (h := h) vu vn (by omega)
  have hO : ∀ t a v, ofQ U N h t a = some v → okz v := fun t a v hv => by
    unfold ofQ at hv
    by_cases t13 : t = -13
    · rw [if_pos t13] at hv
      rw [← Option.some.inj hv]
      split
      · have := vn.2.2.2.2.1 h a.toNat
        unfold inI at this
        unfold okz; omega
      · unfold okz; omega
    · rw [if_neg t13] at hv
      by_cases t14 : t = -14
      · rw [if_pos t14] at hv
        rw [← Option.some.inj hv]
        split
        · have := tQ_in (U := U) (N := N) (h := h) (b := a.toNat)
          unfold okz; omega
        · unfold okz; omega
      · rw [if_neg t14] at hv; cases hv
  have g : ∀ c j, ¬ wTz c j → m.1 c j = M.1 c j := fun c j q => o1.1 c j q
  have e52 : m.1 164 52 = nI h := by rw [g _ _ (by unfold wTz; omega)]; exact h52
  have e53 : m.1 164 53 = nI h := by rw [g _ _ (by unfold wTz; omega)]; exact h53
  obtain ⟨-, hUm, hNm⟩ := stp m o1
  have hmF : mF m (fQ U N h) := fun k v hv => by
    unfold fQ at hv
    by_cases k16 : k = 16
    · rw [if_pos k16] at hv
      refine Or.inr (Or.inr (Or.inr (Or.inr (Or.inr (Or.inr (Or.inl ⟨k16, ?_⟩))))))
      rw [e52, nI_toInt (by omega)]
      exact (Option.some.inj hv).symm
    · rw [if_neg k16] at hv
      by_cases k17 : k = 17
      · rw [if_pos k17] at hv
        refine Or.inr (Or.inr (Or.inr (Or.inr (Or.inr (Or.inr (Or.inr ⟨k17, fun d p n K hK => ?_⟩))))))
        obtain ⟨w1, w2, w3⟩ := stp _ (opq p n)
        rw [e52]
        have he : ∀ k, en N h k ≤ 1 := fun k => by unfold en; split <;> omega
        have h0 := he 0
        have h1 := he 1
        have h2 := he 2
        have h3 := he 3
        have h4 := he 4
        have h5 := he 5
        have h6 := he 6
        refine m_enemyMany w1 w2 w3 vu vn (by omega) (hK _ ?_)
        rw [← Option.some.inj hv, nI_toInt (by unfold cntE; omega)]
      · rw [if_neg k17] at hv
        rcases fH_of hv with ⟨rfl, rfl⟩ | ⟨rfl, rfl⟩ | ⟨rfl, rfl⟩ | ⟨rfl, rfl⟩
        · exact Or.inr (Or.inr (Or.inr (Or.inl ⟨rfl, by rw [hNm.1]⟩)))
        · exact Or.inl ⟨rfl, h, by omega, e52, by rw [hNm.2.2.1 h (by omega)]⟩
        · exact Or.inr (Or.inl ⟨rfl, h, by omega, e52, by rw [hUm.2.2.1 h hh]⟩)
        · exact Or.inr (Or.inr (Or.inl ⟨rfl, h, by omega, e53, by rw [hNm.2.2.2.1 h (by omega)]⟩))
  have eid : mm_pq m (m.2.1 241) (nI ([] : List (Int × Bool)).length) = m := by
    show mm_pq m (m.2.1 241) (nI 0) = m
    rw [← g111]; exact pq_id m
  have main := m_told_loop (d := d + 4) (e := C.length) (x1 := nI h) (w := nI h) (M := m) (K := K) (F := fQ U N h) (OF := ofQ U N h) (v := v) (fl := fl) hGm (by rw [g _ _ (by unfold wTz; omega)]; exact h105) hC hF hO (fun x v hx hv p n K hK => m_partOf (d := d) hGm hmF x _ v hx hv p n K hK) (fun x y v hx p n K hK => ?_) (fun p n z hz => hK _ z (opq p n) hz) C [] 0 (m.2.1 241) (by omega) (fun j c hj => ⟨hvc c (List.mem_of_getElem? hj), by rw [Nat.zero_add, g _ _ (by unfold wTz; omega)]; exact hc j c hj⟩) (fun q hq => by cases hq) trivial (by decide) hev
  · rw [eid] at main
    exact main
  · obtain ⟨w1, w2, w3⟩ := stp _ (opq p n)
    have e7 : ∀ i v, 7 * nI i + nI v = nI (7 * i + v) := fun i v => by
      have : 7 * nI i = nI (7 * i) := pk_mul 7 i
      rw [this, nI_add]
    have eh : (nI h).toInt64.toInt = (h : Int) := by rw [i64_of, nI_toInt (by omega)]
    have ey : ∀ k : Nat, k < 7 → y.toInt = (k : Int) → y.toInt32 = nI k := fun k hk z => i32_eq.mpr (by rw [Int64.toInt_toInt32, z, nI_toInt (by omega), bm32 (by omega) (by omega)])
    refine rX12_qOf w1 ?_
    rcases hx with ⟨rfl, hv⟩ | ⟨rfl, hv⟩
    · have hv : (if 0 ≤ y.toInt ∧ y.toInt < 7 then (N.2.2.2.2 h y.toInt.toNat).toInt else 0) = v := Option.some.inj hv
      refine ipos rfl (m_isHouse (d := d + 3) w1 w2 hu7 (fun q => ineg (by decide) (ite_go (fun c => hK _ ?_) (fun c => ?_))) (fun q => ipos rfl (hK _ ?_)))
      · rw [← hv, if_pos (by omega), show y.toInt.toNat = h by rw [c, eh]; omega, vn.2.2.2.2.2.2.1 h]; rfl
      · rw [ey y.toInt.toNat (by omega) (by omega)]
        refine m_hateOf w1 w3 (by omega) (by omega) (fun z => c (i64_eq.mpr (by rw [eh]; omega))) (hK _ ?_)
        rw [← hv, if_pos (by omega), i64_of]
      · rw [← hv]
        split
        · rw [hate_out vn (by omega)]; rfl
        · rfl
    · have hv : (if 0 ≤ y.toInt ∧ y.toInt < 7 then (tQ U N h y.toInt.toNat).toInt else -1) = v := Option.some.inj hv
      refine ineg (by decide) (m_isHouse (d := d + 3) w1 w2 hu7 (fun q => ineg (by decide) ?_) (fun q => ipos rfl (hK _ ?_)))
      · rw [ey y.toInt.toNat (by omega) (by omega), e7, nI_clamp (by omega)]
        refine ⟨vp_in_nI (by omega) (by decide), hK _ ?_⟩
        rw [(opq p n).2.1 _ _ (by unfold wTz; omega), ht _ _ hh (by omega), i64_of, ← hv, if_pos (by omega)]
      · rw [← hv]
        split
        · unfold tQ
          rw [hate_out vn (by omega), if_neg (by decide)]; rfl
        · rfl
