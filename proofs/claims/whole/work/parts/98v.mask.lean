/-! ===== the reference reads a question ===== -/
section
variable {T : dT} {d : Nat} {M : mm_M}
theorem m_kindQ {q : Nat} {K : Int32 → mm_M → Prop} (hG : mm_G M.2.2) (h : mQs T 3 q [] [] [] 0 M) (h1 : ∀ kd, kd < 6 → wdn T q = nI (24 + kd) → ∀ m, offM wLx M m → mQs T 3 (nxt T q) [] [] [] 0 m → K (nI kd) m) (h2 : (∀ kd, kd < 6 → wdn T q ≠ nI (24 + kd)) → ∀ m, offM wLx M m → mXs 1 q m → K 5 m) : mm_CI mX12_qKind (d + 4) [.ref 164] M K := by
  have G : ∀ m, offM wLx M m → mm_G m.2.2 := fun m o' => by rw [o'.2.2]; exact hG
  refine rX12_qKind hG (m_takesQ (i := 0) (by omega) hG h (fun z m o s => ineg (by decide) (h1 0 (by omega) z m o s)) (fun n0 m o s _ => ipos rfl ?_))
  refine m_takesQ (i := 1) (by omega) (G m o) s (fun z m1 o1 s1 => ineg (by decide) (h1 1 (by omega) z m1 (offM_tr o o1) s1)) (fun n1 m1 o1 s1 _ => ipos rfl ?_)
  have o1' := offM_tr o o1
  refine m_takesQ (i := 2) (by omega) (G m1 o1') s1 (fun z m2 o2 s2 => ineg (by decide) (h1 2 (by omega) z m2 (offM_tr o1' o2) s2)) (fun n2 m2 o2 s2 _ => ipos rfl ?_)
  have o2' := offM_tr o1' o2
  refine m_takesQ (i := 3) (by omega) (G m2 o2') s2 (fun z m3 o3 s3 => ineg (by decide) (h1 3 (by omega) z m3 (offM_tr o2' o3) s3)) (fun n3 m3 o3 s3 _ => ipos rfl ?_)
  have o3' := offM_tr o2' o3
  refine m_takesQ (i := 4) (by omega) (G m3 o3') s3 (fun z m4 o4 s4 => ineg (by decide) (h1 4 (by omega) z m4 (offM_tr o3' o4) s4)) (fun n4 m4 o4 s4 _ => ipos rfl ?_)
  have o4' := offM_tr o3' o4
  refine m_asksQ (i := 5) (by omega) (G m4 o4') s4 (fun z m5 o5 s5 => h1 5 (by omega) z m5 (offM_tr o4' o5) s5) (fun n5 m5 o5 x5 => h2 (fun kd hkd => ?_) m5 (offM_tr o4' o5) x5)
  match kd, hkd with
  | 0, _ => exact n0
  | 1, _ => exact n1
  | 2, _ => exact n2
  | 3, _ => exact n3
  | 4, _ => exact n4
  | 5, _ => exact n5
/-- the reading's part of ask, behind the places that it sets anew -/
def askG (d : Nat) (K : Int64 → mm_M → Prop) : Int32 → mm_M → Prop := fun z75 m75 => if (m75.1 164 5) = 0 then (if 3 ≤ z75 then (if (m75.1 164 5) = 0 then (mm_CV mX12_qSums d [.ref 164] m75 (fun m106 => jX12_ask_109 d m106 K z75)) else (jX12_ask_109 d m75 K z75)) else (mm_CV mX12_qTest d [.ref 164] m75 (fun m92 => jX12_ask_109 d m92 K z75))) else (if (m75.1 164 5) = 0 then (mm_CV mX12_qSums d [.ref 164] m75 (fun m106 => jX12_ask_109 d m106 K z75)) else (jX12_ask_109 d m75 K z75))
theorem x_109 {k p : Nat} {z : Int32} {K : Int64 → mm_M → Prop} (hG : mm_G M.2.2) (x : mXs k p M) (h : jX12_ask_133 d M K z) : jX12_ask_109 d M K z := lX12_ask_109 hG (ineg (mXn0 x) h)
theorem m_109 {q o : Nat} {C : List Nat} {z : Int32} {K : Int64 → mm_M → Prop} (hB : ∀ j, inI 0 255 (T.1 j)) (hG : mm_G M.2.2) (s : mQs T 3 q C [] [] o M) (h1 : tkk T q = 0 → ∀ m, offM wLx M m → mQs T 3 q C [] [] o m → jX12_ask_133 d m K z) (h2 : tkk T q ≠ 0 → ∀ m, offM wLx M m → mXs 1 q m → jX12_ask_133 d m K z) : jX12_ask_109 d M K z := by
  have hbad : M.1 164 5 = 0 := by obtain ⟨p, h⟩ := s.1; exact h.2.1
  have hn : T.2 ≤ 1600 := by obtain ⟨p, h⟩ := s.1; exact h.1.2.1
  have hq := mLx_q s.1
  refine lX12_ask_109 hG (ipos hbad (m_lookP hG s.1 (fun m o' l => ?_)))
  have o2 : offM wLx M m := offM_mono o' (fun c j z => by unfold wLx; omega)
  have s2 := mQs_lx s o2 ⟨_, l⟩
  have hGm : mm_G m.2.2 := by rw [o2.2.2]; exact hG
  rcases tkk_c T q with ⟨a1, a2, a3⟩ | a
  · have e : (if q < T.2 then T.1 q else -1) = -1 := if_neg (by omega)
    rw [e]
    exact ipos rfl (h1 a1 m o2 s2)
  · have hlt : q < T.2 := by
      rcases a with ⟨b1, b2, -⟩ | ⟨b1, b2, -⟩ | ⟨b1, b2, -⟩ <;> exact b2
    have hz : tkk T q ≠ 0 := fun z => by
      unfold tkk at z
      rw [if_neg (by omega)] at z
      by_cases g : glu T q = true
      · rw [if_pos g] at z; exact absurd z (by decide)
      · rw [if_neg g] at z
        rcases knd_c (T.1 q) with ⟨y, -⟩ | ⟨y, -⟩ | ⟨y, -⟩ <;> rw [y] at z <;> exact absurd z (by decide)
    have e : (if q < T.2 then T.1 q else -1) = T.1 q := if_pos hlt
    have hm1 : T.1 q ≠ -1 := fun z => by
      have := (hB q).1
      rw [z] at this
      exact absurd this (by decide)
    rw [e]
    refine ineg hm1 ?_
    rw [l.2.2.2.2.1]
    exact m_failP (k := 1) (p := q) hGm l.2.1 (by omega) (by omega) (fun m3 o3 x3 => h2 hz m3 (offM_tr o2 o3) x3)
theorem m_readOk {kd q' : Nat} {C : List Nat} {K : Int64 → mm_M → Prop} (hB : ∀ j, inI 0 255 (T.1 j)) (hG : mm_G M.2.2) (h : mQs T 3 (rn T isBl 0) [] [] [] 0 M) (ha : askOk T kd q' C) (hkd : kd < 6) (hK : ∀ m, offM wQs M m → mQs T 3 q' C [] [] 0 m → C.length ≤ q' → jX12_ask_133 (d + 20) m K (nI kd)) : mm_CI mX12_qKind (d + 20) [.ref 164] M (askG (d + 20) K) := by
  obtain ⟨hw, hz, hst⟩ := ha
  refine m_kindQ (d := d + 16) hG h (fun kd' hk' hw' m o s => ?_) (fun hno => absurd hw (hno kd hkd))
  obtain rfl : kd = kd' := by
    have := (nI_eq (a := 24 + kd) (b := 24 + kd') (by omega) (by omega)).mp (hw.symm.trans hw')
    omega
  have hbad : m.1 164 5 = 0 := by obtain ⟨p, h⟩ := s.1; exact h.2.1
  have hGm : mm_G m.2.2 := by rw [o.2.2]; exact hG
  have fin : ∀ m2, offM wQs m m2 → mQs T 3 q' C [] [] 0 m2 → C.length ≤ q' → jX12_ask_109 (d + 20) m2 K (nI kd) := fun m2 o2 s2 hl => m_109 hB (by rw [o2.2.2]; exact hGm) s2 (fun _ m3 o3 s3 => hK m3 (offM_tr (offM_tr (wLx_Q o) o2) (wLx_Q o3)) s3 hl) (fun z => absurd hz z)
  refine ipos hbad ?_
  rcases hst with ⟨a1, a2⟩ | ⟨a1, a2, a3⟩
  · refine ineg (nI_ge (b := 3) a1 (by decide)) (m_qTestP (d := d + 7) hGm s a2 ⟨fun k p e => (by cases e), fun q2 C2 o2 e m2 om s2 hl => ?_⟩ (Or.inr ⟨q', C, 0, rfl⟩))
    simp only [Prod.mk.injEq] at e
    obtain ⟨-, rfl, rfl, -, rfl⟩ := e
    exact fin m2 om s2 hl
  · refine ipos (nI_le (a := 3) a1 (by omega)) (ipos hbad (m_qSumsP (e := 0) (d := d + 9) (F := []) (fun x hx => (by cases hx)) hGm s (by show 0 + 0 + 0 ≤ _; omega) (Nat.le_refl _) a3 ⟨fun k p e => (by cases e), fun q2 C2 o2 e m2 om s2 hl _ => ?_⟩ (Or.inr ⟨q', C, 0, rfl⟩)))
    simp only [Prod.mk.injEq] at e
    obtain ⟨-, rfl, rfl, -, rfl⟩ := e
    exact fin m2 om s2 (by have : C.length + 0 + 0 ≤ q' := hl; omega)
end
