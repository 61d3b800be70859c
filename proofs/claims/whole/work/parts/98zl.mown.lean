/-! ===== the reference: words and names of a duchy's text ===== -/
theorem sh_v : ∀ i, i < 24 → mm_SH[167 + i]? = some (2, (wds.getD i []).length) := by decide +kernel
def wL2 (c j : Nat) : Prop := c = 164 ∧ j = 2
section
variable {T : dT} {q d : Nat} {M : mm_M}
theorem mWd_m {W : Nat → Nat → Prop} {m : mm_M} (h : mWd M) (o : offM W M m) (hW : ∀ c j, W c j → ¬ (167 ≤ c ∧ c ≤ 190) ∧ ¬ (217 ≤ c ∧ c ≤ 238)) : mWd m := mWd_off h (offA_M o) hW
theorem m_hereD {i : Nat} {K : Int32 → mm_M → Prop} (hi : i < 24) (hG : mm_G M.2.2) (h : mLx T q M) (hw : mWd M) (h1 : wdn T q = nI i → ∀ m, offM wL2 M m → mLp T q q m → K 1 m) (h0 : wdn T q ≠ nI i → ∀ m, offM wL2 M m → mLp T q q m → K 0 m) : mm_CI mX12_isHere (d + 1) [.ref 164, .ref (167 + i)] M K :=
  m_isHere hG h (by omega) (sh_v i hi) (hw.1 i hi) (by omega) h1 h0
theorem m_takesD {i : Nat} {K : Int32 → mm_M → Prop} (hi : i < 24) (hG : mm_G M.2.2) (h : mLx T q M) (hw : mWd M) (h1 : wdn T q = nI i → ∀ m, offM wLx M m → mLx T (nxt T q) m → K 1 m) (h0 : wdn T q ≠ nI i → ∀ m, offM wLx M m → mLp T q q m → K 0 m) : mm_CI mX12_takes (d + 2) [.ref 164, .ref (167 + i)] M K :=
  m_takesW hG h (by omega) (sh_v i hi) (hw.1 i hi) (by omega) h1 h0
theorem m_asksD {i : Nat} {K : mm_M → Prop} (hi : i < 24) (hG : mm_G M.2.2) (h : mLx T q M) (hw : mWd M) (h1 : wdn T q = nI i → ∀ m, offM wLx M m → mLx T (nxt T q) m → K m) (h0 : wdn T q ≠ nI i → ∀ m, offM wLx M m → mXs 1 q m → K m) : mm_CV mX12_asks (d + 3) [.ref 164, .ref (167 + i)] M K :=
  m_asksW hG h (by omega) (sh_v i hi) (hw.1 i hi) (by omega) h1 h0
theorem m_asksDX {i k p : Nat} {K : mm_M → Prop} (hi : i < 24) (hG : mm_G M.2.2) (h : mXs k p M) (hK : K M) : mm_CV mX12_asks (d + 1) [.ref 164, .ref (167 + i)] M K := m_asksX hG h (sh_v i hi) hK
set_option maxHeartbeats 2000000 in
theorem m_isOwn {K : Int32 → mm_M → Prop} (hG : mm_G M.2.2) (h : mLx T q M) (hw : mWd M) (h1 : ownW T q = true → ∀ m, offM wL2 M m → mLp T q q m → K 1 m) (h0 : ownW T q = false → ∀ m, offM wL2 M m → mLp T q q m → K 0 m) : mm_CI mX12_isOwnHere (d + 2) [.ref 164] M K := by
  have G : ∀ m, offM wL2 M m → mm_G m.2.2 := fun m o' => by rw [o'.2.2]; exact hG
  have Wd : ∀ m, offM wL2 M m → mWd m := fun m o' => mWd_m hw o' (fun c j z => by unfold wL2 at z; omega)
  have own : ∀ i : Nat, i < 24 → wdn T q = nI i → ownW T q = true := fun i hi z => by
    unfold ownW
    rw [z, nI_toInt (by omega)]
    exact decide_eq_true (by omega)
  have l223 : ∀ i : Nat, i < 24 → wdn T q = nI i → ∀ m, offM wL2 M m → mLp T q q m → jX12_isOwnHere_223 (d + 1) m K 1 := fun i hi z m o l => lX12_isOwnHere_223 (G m o) (ineg (by decide) (h1 (own i hi z) m o l))
  have l147 : ∀ i : Nat, i < 24 → wdn T q = nI i → ∀ m, offM wL2 M m → mLp T q q m → jX12_isOwnHere_147 (d + 1) m K 1 := fun i hi z m o l => lX12_isOwnHere_147 (G m o) (ineg (by decide) (l223 i hi z m o l))
  have l71 : ∀ i : Nat, i < 24 → wdn T q = nI i → ∀ m, offM wL2 M m → mLp T q q m → jX12_isOwnHere_71 (d + 1) m K 1 := fun i hi z m o l => lX12_isOwnHere_71 (G m o) (ineg (by decide) (l147 i hi z m o l))
  refine rX12_isOwnHere hG ?_
  refine m_hereD (i := 0) (by omega) (G M offM_rf) h (Wd M offM_rf) (fun z m o l => ineg (by decide) (l71 0 (by omega) z m (offM_tr offM_rf o) l)) (fun n0 m0 o0 l0 => ipos rfl ?_)
  have a0 := offM_tr (offM_rf (W := wL2) (M := M)) o0
  refine m_hereD (i := 1) (by omega) (G m0 a0) ⟨_, l0⟩ (Wd m0 a0) (fun z m o l => ineg (by decide) (l71 1 (by omega) z m (offM_tr a0 o) l)) (fun n1 m1 o1 l1 => ipos rfl ?_)
  have a1 := offM_tr a0 o1
  refine m_hereD (i := 2) (by omega) (G m1 a1) ⟨_, l1⟩ (Wd m1 a1) (fun z m o l => ineg (by decide) (l71 2 (by omega) z m (offM_tr a1 o) l)) (fun n2 m2 o2 l2 => ipos rfl ?_)
  have a2 := offM_tr a1 o2
  refine m_hereD (i := 3) (by omega) (G m2 a2) ⟨_, l2⟩ (Wd m2 a2) (fun z m o l => ineg (by decide) (l71 3 (by omega) z m (offM_tr a2 o) l)) (fun n3 m3 o3 l3 => ipos rfl ?_)
  have a3 := offM_tr a2 o3
  refine m_hereD (i := 4) (by omega) (G m3 a3) ⟨_, l3⟩ (Wd m3 a3) (fun z m o l => ineg (by decide) (l71 4 (by omega) z m (offM_tr a3 o) l)) (fun n4 m4 o4 l4 => ipos rfl ?_)
  have a4 := offM_tr a3 o4
  refine m_hereD (i := 5) (by omega) (G m4 a4) ⟨_, l4⟩ (Wd m4 a4) (fun z m o l => ineg (by decide) (l71 5 (by omega) z m (offM_tr a4 o) l)) (fun n5 m5 o5 l5 => ipos rfl ?_)
  have a5 := offM_tr a4 o5
  refine lX12_isOwnHere_71 (G m5 a5) (ipos rfl (m_hereD (i := 6) (by omega) (G m5 a5) ⟨_, l5⟩ (Wd m5 a5) (fun z m o l => ineg (by decide) (l147 6 (by omega) z m (offM_tr a5 o) l)) (fun n6 m6 o6 l6 => ipos rfl ?_)))
  have a6 := offM_tr a5 o6
  refine m_hereD (i := 7) (by omega) (G m6 a6) ⟨_, l6⟩ (Wd m6 a6) (fun z m o l => ineg (by decide) (l147 7 (by omega) z m (offM_tr a6 o) l)) (fun n7 m7 o7 l7 => ipos rfl ?_)
  have a7 := offM_tr a6 o7
  refine m_hereD (i := 8) (by omega) (G m7 a7) ⟨_, l7⟩ (Wd m7 a7) (fun z m o l => ineg (by decide) (l147 8 (by omega) z m (offM_tr a7 o) l)) (fun n8 m8 o8 l8 => ipos rfl ?_)
  have a8 := offM_tr a7 o8
  refine m_hereD (i := 9) (by omega) (G m8 a8) ⟨_, l8⟩ (Wd m8 a8) (fun z m o l => ineg (by decide) (l147 9 (by omega) z m (offM_tr a8 o) l)) (fun n9 m9 o9 l9 => ipos rfl ?_)
  have a9 := offM_tr a8 o9
  refine m_hereD (i := 10) (by omega) (G m9 a9) ⟨_, l9⟩ (Wd m9 a9) (fun z m o l => ineg (by decide) (l147 10 (by omega) z m (offM_tr a9 o) l)) (fun n10 m10 o10 l10 => ipos rfl ?_)
  have a10 := offM_tr a9 o10
  refine m_hereD (i := 11) (by omega) (G m10 a10) ⟨_, l10⟩ (Wd m10 a10) (fun z m o l => ineg (by decide) (l147 11 (by omega) z m (offM_tr a10 o) l)) (fun n11 m11 o11 l11 => ipos rfl ?_)
  have a11 := offM_tr a10 o11
  refine lX12_isOwnHere_147 (G m11 a11) (ipos rfl (m_hereD (i := 12) (by omega) (G m11 a11) ⟨_, l11⟩ (Wd m11 a11) (fun z m o l => ineg (by decide) (l223 12 (by omega) z m (offM_tr a11 o) l)) (fun n12 m12 o12 l12 => ipos rfl ?_)))
  have a12 := offM_tr a11 o12
  refine m_hereD (i := 13) (by omega) (G m12 a12) ⟨_, l12⟩ (Wd m12 a12) (fun z m o l => ineg (by decide) (l223 13 (by omega) z m (offM_tr a12 o) l)) (fun n13 m13 o13 l13 => ipos rfl ?_)
  have a13 := offM_tr a12 o13
  refine m_hereD (i := 14) (by omega) (G m13 a13) ⟨_, l13⟩ (Wd m13 a13) (fun z m o l => ineg (by decide) (l223 14 (by omega) z m (offM_tr a13 o) l)) (fun n14 m14 o14 l14 => ipos rfl ?_)
  have a14 := offM_tr a13 o14
  refine m_hereD (i := 15) (by omega) (G m14 a14) ⟨_, l14⟩ (Wd m14 a14) (fun z m o l => ineg (by decide) (l223 15 (by omega) z m (offM_tr a14 o) l)) (fun n15 m15 o15 l15 => ipos rfl ?_)
  have a15 := offM_tr a14 o15
  refine m_hereD (i := 16) (by omega) (G m15 a15) ⟨_, l15⟩ (Wd m15 a15) (fun z m o l => ineg (by decide) (l223 16 (by omega) z m (offM_tr a15 o) l)) (fun n16 m16 o16 l16 => ipos rfl ?_)
  have a16 := offM_tr a15 o16
  refine m_hereD (i := 17) (by omega) (G m16 a16) ⟨_, l16⟩ (Wd m16 a16) (fun z m o l => ineg (by decide) (l223 17 (by omega) z m (offM_tr a16 o) l)) (fun n17 m17 o17 l17 => ipos rfl ?_)
  have a17 := offM_tr a16 o17
  refine lX12_isOwnHere_223 (G m17 a17) (ipos rfl (m_hereD (i := 18) (by omega) (G m17 a17) ⟨_, l17⟩ (Wd m17 a17) (fun z m o l => ineg (by decide) (h1 (own 18 (by omega) z) m (offM_tr a17 o) l)) (fun n18 m18 o18 l18 => ipos rfl ?_)))
  have a18 := offM_tr a17 o18
  refine m_hereD (i := 19) (by omega) (G m18 a18) ⟨_, l18⟩ (Wd m18 a18) (fun z m o l => ineg (by decide) (h1 (own 19 (by omega) z) m (offM_tr a18 o) l)) (fun n19 m19 o19 l19 => ipos rfl ?_)
  have a19 := offM_tr a18 o19
  refine m_hereD (i := 20) (by omega) (G m19 a19) ⟨_, l19⟩ (Wd m19 a19) (fun z m o l => ineg (by decide) (h1 (own 20 (by omega) z) m (offM_tr a19 o) l)) (fun n20 m20 o20 l20 => ipos rfl ?_)
  have a20 := offM_tr a19 o20
  refine m_hereD (i := 21) (by omega) (G m20 a20) ⟨_, l20⟩ (Wd m20 a20) (fun z m o l => ineg (by decide) (h1 (own 21 (by omega) z) m (offM_tr a20 o) l)) (fun n21 m21 o21 l21 => ipos rfl ?_)
  have a21 := offM_tr a20 o21
  refine m_hereD (i := 22) (by omega) (G m21 a21) ⟨_, l21⟩ (Wd m21 a21) (fun z m o l => ineg (by decide) (h1 (own 22 (by omega) z) m (offM_tr a21 o) l)) (fun n22 m22 o22 l22 => ipos rfl ?_)
  have a22 := offM_tr a21 o22
  refine m_hereD (i := 23) (by omega) (G m22 a22) ⟨_, l22⟩ (Wd m22 a22) (fun z m o l => ineg (by decide) (h1 (own 23 (by omega) z) m (offM_tr a22 o) l)) (fun n23 m23 o23 l23 => ipos rfl ?_)
  have a23 := offM_tr a22 o23
  refine h0 ?_ m23 a23 l23
  have all : ∀ i, i < 24 → wdn T q ≠ nI i := fun i hi => by
    match i, hi with
    | 0, _ => exact n0
    | 1, _ => exact n1
    | 2, _ => exact n2
    | 3, _ => exact n3
    | 4, _ => exact n4
    | 5, _ => exact n5
    | 6, _ => exact n6
    | 7, _ => exact n7
    | 8, _ => exact n8
    | 9, _ => exact n9
    | 10, _ => exact n10
    | 11, _ => exact n11
    | 12, _ => exact n12
    | 13, _ => exact n13
    | 14, _ => exact n14
    | 15, _ => exact n15
    | 16, _ => exact n16
    | 17, _ => exact n17
    | 18, _ => exact n18
    | 19, _ => exact n19
    | 20, _ => exact n20
    | 21, _ => exact n21
    | 22, _ => exact n22
    | 23, _ => exact n23
    | n + 24, hi => exact absurd hi (by omega)
  unfold ownW
  refine decide_eq_false (fun z => ?_)
  exact all (wdn T q).toInt.toNat (by omega) (i32_nI z.1)
end
