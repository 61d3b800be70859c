/-! ===== the class answers a question: over the houses ===== -/
theorem i64_v {x : Int32} {v : Int} (h : x.toInt = v) : x.toInt64 = Int64.ofInt v := by
  rw [i64_eq, i64_of, h, Int64.toInt_ofInt]
  have h1 := Int32.le_toInt x
  have h2 := Int32.toInt_lt x
  rw [bm64 (by omega) (by omega)]
theorem c_joinedQ {d kd h : Nat} {y4 : Int64} {any : Bool} {x5 : Int32} {v : Int} {M : mm_M} {K : Int64 → mm_M → Prop} (hG : mm_G M.2.2) (hkd : kd < 6) (h16 : M.1 16 2 = nI (24 + kd)) (hh : h < 7) (hx : x5.toInt = v) (hK : K (joinQ kd y4 any h v) M) : mm_CL mX0_joined (d + 1) [.ref 16, .long y4, .int (if any then 1 else 0), .int (nI h), .int x5] M K := by
  have e5 := i64_v hx
  have eh : (nI h).toInt64 = lN h := by
    rw [i64_eq, i64_of, nI_toInt (by omega), pk_lT (by omega)]
  have z5 : x5 = 0 ↔ v = 0 := by
    rw [i32_eq, hx]
    exact Iff.rfl
  unfold joinQ at hK
  refine rX0_joined hG ?_
  rw [h16, e5, eh]
  match kd, hkd with
  | 0, _ =>
    rw [if_pos rfl] at hK
    refine ipos rfl (ite_go (fun c => ite_go (fun c2 => ?_) (fun c2 => ?_)) (fun c => ?_))
    · rw [if_pos c, if_pos (z5.mp c2)] at hK; exact hK
    · rw [if_pos c, if_neg (mt z5.mpr c2)] at hK; exact hK
    · rw [if_neg c] at hK; exact hK
  | 1, _ =>
    rw [if_neg (by decide), if_pos rfl] at hK
    refine ineg (by decide) (ipos rfl (ite_go (fun c2 => ?_) (fun c2 => ?_)))
    · rw [if_pos (z5.mp c2)] at hK; exact hK
    · rw [if_neg (mt z5.mpr c2)] at hK; exact hK
  | 2, _ =>
    rw [if_neg (by decide), if_neg (by decide), if_pos (Or.inl rfl)] at hK
    exact ineg (by decide) (ineg (by decide) (ipos rfl hK))
  | 3, _ =>
    rw [if_neg (by decide), if_neg (by decide), if_pos (Or.inr rfl)] at hK
    exact ineg (by decide) (ineg (by decide) (ineg (by decide) (ipos rfl hK)))
  | 4, _ =>
    rw [if_neg (by decide), if_neg (by decide), if_neg (by decide), if_pos rfl] at hK
    refine ineg (by decide) (ineg (by decide) (ineg (by decide) (ineg (by decide) (ipos rfl ?_))))
    cases any with
    | true => exact ineg (by decide) hK
    | false => exact ipos rfl hK
  | 5, _ =>
    rw [if_neg (by decide), if_neg (by decide), if_neg (by decide), if_neg (by decide)] at hK
    refine ineg (by decide) (ineg (by decide) (ineg (by decide) (ineg (by decide) (ineg (by decide) (ipos rfl ?_)))))
    cases any with
    | true => exact ineg (by decide) hK
    | false => exact ipos rfl hK
