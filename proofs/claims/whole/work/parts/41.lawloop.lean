theorem lw_ix {t L q : Nat} (h : t + 6 ≤ L) (hL : L ≤ 3072) (hq : q < 6) : vp_in (nI t + nI q) L := by
  rw [nI_add]
  exact vp_in_nI (by omega) (by omega)
theorem lw_go {t L : Nat} (hL : L ≤ 3072) (ht : t ≤ 3080) (h : ¬ nI L - 6 < nI t) : t + 6 ≤ L := by
  rw [Int32.lt_iff_toInt_lt, show (6 : Int32) = nI 6 from rfl, pk_sub_toInt (by omega) (by omega), nI_toInt (by omega)] at h
  omega
/-- feed -/
def lw_S0 (Inv : Nat → mm_M → Prop) : Prop := ∀ (u : Nat) (M : mm_M) (x1 x2 x3 x4 x5 : Int32), u < 512 → mm_G M.2.2 → Inv u M → mm_CI mX11_feed 900 [.ref 0, .int x1, .int x2, .int x3, .int x4, .int x5] M (fun z1 m1 => mm_CI mX12_feed 900 [.ref 164, .int x1, .int x2, .int x3, .int x4, .int x5] m1 (fun z2 m2 => z1 = z2 ∧ Inv (u + 1) m2))
/-- end -/
def lw_S1 (Inv : Nat → mm_M → Prop) : Prop := ∀ (u : Nat) (M : mm_M) (x1 : Int32), u < 512 → mm_G M.2.2 → Inv u M → mm_CI mX11_end 900 [.ref 0, .int x1] M (fun z1 m1 => mm_CI mX12_end 900 [.ref 164, .int x1] m1 (fun z2 m2 => z1 = z2 ∧ Inv (u + 1) m2))
/-- duchy -/
def lw_S2 (Inv : Nat → mm_M → Prop) : Prop := ∀ (u : Nat) (M : mm_M), u < 512 → mm_G M.2.2 → Inv u M → mm_CI mX11_duchy 900 [.ref 0] M (fun z1 m1 => mm_CI mX12_duchy 900 [.ref 164] m1 (fun z2 m2 => z1 = z2 ∧ Inv (u + 1) m2))
/-- fault -/
def lw_S3 (Inv : Nat → mm_M → Prop) : Prop := ∀ (u : Nat) (M : mm_M) (x1 : Int32), u < 512 → mm_G M.2.2 → Inv u M → mm_CI mX11_fault 900 [.ref 0, .int x1] M (fun z1 m1 => mm_CI mX12_fault 900 [.ref 164, .int x1] m1 (fun z2 m2 => z1 = z2 ∧ Inv (u + 1) m2))
/-- has -/
def lw_S4 (Inv : Nat → mm_M → Prop) : Prop := ∀ (u : Nat) (M : mm_M) (x1 : Int32), u < 512 → mm_G M.2.2 → Inv u M → mm_CI mX11_has 900 [.ref 0, .int x1] M (fun z1 m1 => mm_CI mX12_has 900 [.ref 164, .int x1] m1 (fun z2 m2 => z1 = z2 ∧ Inv (u + 1) m2))
/-- letter -/
def lw_S5 (Inv : Nat → mm_M → Prop) : Prop := ∀ (u : Nat) (M : mm_M) (x1 x2 : Int32), u < 512 → mm_G M.2.2 → Inv u M → mm_CI mX11_letter 900 [.ref 0, .int x1, .int x2] M (fun z1 m1 => mm_CI mX12_letter 900 [.ref 164, .int x1, .int x2] m1 (fun z2 m2 => z1 = z2 ∧ Inv (u + 1) m2))
/-- house -/
def lw_S6 (Inv : Nat → mm_M → Prop) : Prop := ∀ (u : Nat) (M : mm_M) (x1 x2 : Int32), u < 512 → mm_G M.2.2 → Inv u M → mm_CI mX11_house 900 [.ref 0, .int x1, .int x2] M (fun z1 m1 => mm_CI mX12_house 900 [.ref 164, .int x1, .int x2] m1 (fun z2 m2 => z1 = z2 ∧ Inv (u + 1) m2))
/-- hate -/
def lw_S7 (Inv : Nat → mm_M → Prop) : Prop := ∀ (u : Nat) (M : mm_M) (x1 x2 : Int32), u < 512 → mm_G M.2.2 → Inv u M → mm_CI mX11_hate 900 [.ref 0, .int x1, .int x2] M (fun z1 m1 => mm_CI mX12_hate 900 [.ref 164, .int x1, .int x2] m1 (fun z2 m2 => z1 = z2 ∧ Inv (u + 1) m2))
/-- baker -/
def lw_S8 (Inv : Nat → mm_M → Prop) : Prop := ∀ (u : Nat) (M : mm_M) (x1 : Int32), u < 512 → mm_G M.2.2 → Inv u M → mm_CI mX11_baker 900 [.ref 0, .int x1] M (fun z1 m1 => mm_CI mX12_baker 900 [.ref 164, .int x1] m1 (fun z2 m2 => z1 = z2 ∧ Inv (u + 1) m2))
/-- taste -/
def lw_S9 (Inv : Nat → mm_M → Prop) : Prop := ∀ (u : Nat) (M : mm_M) (x1 x2 : Int32), u < 512 → mm_G M.2.2 → Inv u M → mm_CI mX11_taste 900 [.ref 0, .int x1, .int x2] M (fun z1 m1 => mm_CI mX12_taste 900 [.ref 164, .int x1, .int x2] m1 (fun z2 m2 => z1 = z2 ∧ Inv (u + 1) m2))
/-- kept -/
def lw_S10 (Inv : Nat → mm_M → Prop) : Prop := ∀ (u : Nat) (M : mm_M) (x1 x2 : Int32), u < 512 → mm_G M.2.2 → Inv u M → mm_CI mX11_kept 900 [.ref 0, .int x1, .int x2] M (fun z1 m1 => mm_CI mX12_kept 900 [.ref 164, .int x1, .int x2] m1 (fun z2 m2 => z1 = z2 ∧ Inv (u + 1) m2))
/-- later -/
def lw_S11 (Inv : Nat → mm_M → Prop) : Prop := ∀ (u : Nat) (M : mm_M) (x1 x2 x3 : Int32), u < 512 → mm_G M.2.2 → Inv u M → mm_CI mX11_later 900 [.ref 0, .int x1, .int x2, .int x3] M (fun z1 m1 => mm_CI mX12_later 900 [.ref 164, .int x1, .int x2, .int x3] m1 (fun z2 m2 => z1 = z2 ∧ Inv (u + 1) m2))
/-- cooled -/
def lw_S12 (Inv : Nat → mm_M → Prop) : Prop := ∀ (u : Nat) (M : mm_M) (x1 x2 x3 : Int32), u < 512 → mm_G M.2.2 → Inv u M → mm_CI mX11_cooled 900 [.ref 0, .int x1, .int x2, .int x3] M (fun z1 m1 => mm_CI mX12_cooled 900 [.ref 164, .int x1, .int x2, .int x3] m1 (fun z2 m2 => z1 = z2 ∧ Inv (u + 1) m2))
/-- starves -/
def lw_S13 (Inv : Nat → mm_M → Prop) : Prop := ∀ (u : Nat) (M : mm_M) (x1 : Int32), u < 512 → mm_G M.2.2 → Inv u M → mm_CI mX11_starves 900 [.ref 0, .int x1] M (fun z1 m1 => mm_CI mX12_starves 900 [.ref 164, .int x1] m1 (fun z2 m2 => z1 = z2 ∧ Inv (u + 1) m2))
/-- table -/
def lw_S14 (Inv : Nat → mm_M → Prop) : Prop := ∀ (u : Nat) (M : mm_M) (x1 : Int32), u < 512 → mm_G M.2.2 → Inv u M → mm_CI mX11_table 900 [.ref 0, .int x1] M (fun z1 m1 => mm_CI mX12_table 900 [.ref 164, .int x1] m1 (fun z2 m2 => z1 = z2 ∧ Inv (u + 1) m2))
/-- wanting -/
def lw_S15 (Inv : Nat → mm_M → Prop) : Prop := ∀ (u : Nat) (M : mm_M) (x1 : Int32), u < 512 → mm_G M.2.2 → Inv u M → mm_CI mX11_wanting 900 [.ref 0, .int x1] M (fun z1 m1 => mm_CI mX12_wanting 900 [.ref 164, .int x1] m1 (fun z2 m2 => z1 = z2 ∧ Inv (u + 1) m2))
/-- spared -/
def lw_S16 (Inv : Nat → mm_M → Prop) : Prop := ∀ (u : Nat) (M : mm_M) (x1 x2 : Int32), u < 512 → mm_G M.2.2 → Inv u M → mm_CI mX11_spared 900 [.ref 0, .int x1, .int x2] M (fun z1 m1 => mm_CI mX12_spared 900 [.ref 164, .int x1, .int x2] m1 (fun z2 m2 => z1 = z2 ∧ Inv (u + 1) m2))
/-- rest -/
def lw_S17 (Inv : Nat → mm_M → Prop) : Prop := ∀ (u : Nat) (M : mm_M) (x1 : Int32), u < 512 → mm_G M.2.2 → Inv u M → mm_CI mX11_rest 900 [.ref 0, .int x1] M (fun z1 m1 => mm_CI mX12_rest 900 [.ref 164, .int x1] m1 (fun z2 m2 => z1 = z2 ∧ Inv (u + 1) m2))
/-- see -/
def lw_S18 (Inv : Nat → mm_M → Prop) : Prop := ∀ (u : Nat) (M : mm_M), u < 512 → mm_G M.2.2 → Inv u M → mm_CI mX11_see 900 [.ref 0] M (fun z1 m1 => mm_CI mX12_see 900 [.ref 164] m1 (fun z2 m2 => z1 = z2 ∧ Inv (u + 1) m2))
/-- flour -/
def lw_S19 (Inv : Nat → mm_M → Prop) : Prop := ∀ (u : Nat) (M : mm_M) (x1 x2 : Int32), u < 512 → mm_G M.2.2 → Inv u M → mm_CI mX11_flour 900 [.ref 0, .int x1, .int x2] M (fun z1 m1 => mm_CI mX12_flour 900 [.ref 164, .int x1, .int x2] m1 (fun z2 m2 => z1 = z2 ∧ Inv (u + 1) m2))
/-- tells -/
def lw_S20 (Inv : Nat → mm_M → Prop) : Prop := ∀ (u : Nat) (M : mm_M) (x1 x2 : Int32), u < 512 → mm_G M.2.2 → Inv u M → mm_CI mX11_tells 900 [.ref 0, .int x1, .int x2] M (fun z1 m1 => mm_CI mX12_tells 900 [.ref 164, .int x1, .int x2] m1 (fun z2 m2 => z1 = z2 ∧ Inv (u + 1) m2))
/-- feud -/
def lw_S21 (Inv : Nat → mm_M → Prop) : Prop := ∀ (u : Nat) (M : mm_M) (x1 x2 x3 : Int32), u < 512 → mm_G M.2.2 → Inv u M → mm_CI mX11_feud 900 [.ref 0, .int x1, .int x2, .int x3] M (fun z1 m1 => mm_CI mX12_feud 900 [.ref 164, .int x1, .int x2, .int x3] m1 (fun z2 m2 => z1 = z2 ∧ Inv (u + 1) m2))
/-- bring -/
def lw_S22 (Inv : Nat → mm_M → Prop) : Prop := ∀ (u : Nat) (M : mm_M) (x1 x2 : Int32), u < 512 → mm_G M.2.2 → Inv u M → mm_CI mX11_bring 900 [.ref 0, .int x1, .int x2] M (fun z1 m1 => mm_CI mX12_bring 900 [.ref 164, .int x1, .int x2] m1 (fun z2 m2 => z1 = z2 ∧ Inv (u + 1) m2))
/-- days -/
def lw_S23 (Inv : Nat → mm_M → Prop) : Prop := ∀ (u : Nat) (M : mm_M) (x1 : Int32), u < 512 → mm_G M.2.2 → Inv u M → mm_CI mX11_days 900 [.ref 0, .int x1] M (fun z1 m1 => mm_CI mX12_days 900 [.ref 164, .int x1] m1 (fun z2 m2 => z1 = z2 ∧ Inv (u + 1) m2))
/-- chance -/
def lw_S24 (Inv : Nat → mm_M → Prop) : Prop := ∀ (u : Nat) (M : mm_M) (x1 : Int32), u < 512 → mm_G M.2.2 → Inv u M → mm_CI mX11_chance 900 [.ref 0, .int x1] M (fun z1 m1 => mm_CI mX12_chance 900 [.ref 164, .int x1] m1 (fun z2 m2 => z1 = z2 ∧ Inv (u + 1) m2))
/-- undo -/
def lw_S25 (Inv : Nat → mm_M → Prop) : Prop := ∀ (u : Nat) (M : mm_M), u < 512 → mm_G M.2.2 → Inv u M → mm_CI mX11_undo 900 [.ref 0] M (fun z1 m1 => mm_CI mX12_undo 900 [.ref 164] m1 (fun z2 m2 => z1 = z2 ∧ Inv (u + 1) m2))
/-- seed -/
def lw_S26 (Inv : Nat → mm_M → Prop) : Prop := ∀ (u : Nat) (M : mm_M) (x1 : Int32), u < 512 → mm_G M.2.2 → Inv u M → mm_CI mX11_seed 900 [.ref 0, .int x1] M (fun z1 m1 => mm_CI mX12_seed 900 [.ref 164, .int x1] m1 (fun z2 m2 => z1 = z2 ∧ Inv (u + 1) m2))
/-- ask -/
def lw_S27 (Inv : Nat → mm_M → Prop) : Prop := ∀ (u : Nat) (M : mm_M), u < 512 → mm_G M.2.2 → Inv u M → mm_CL mX11_ask 900 [.ref 0] M (fun z1 m1 => mm_CL mX12_ask 900 [.ref 164] m1 (fun z2 m2 => z1 = z2 ∧ Inv (u + 1) m2))
/-- image -/
def lw_S28 (Inv : Nat → mm_M → Prop) : Prop := ∀ (u : Nat) (M : mm_M), u < 512 → mm_G M.2.2 → Inv u M → mm_CI mX11_image 900 [.ref 0] M (fun z1 m1 => mm_CI mX12_image 900 [.ref 164] m1 (fun z2 m2 => z1 = z2 ∧ Inv (u + 1) m2))
/-- octet -/
def lw_S29 (Inv : Nat → mm_M → Prop) : Prop := ∀ (u : Nat) (M : mm_M) (x1 : Int32), u < 512 → mm_G M.2.2 → Inv u M → mm_CI mX11_octet 900 [.ref 0, .int x1] M (fun z1 m1 => mm_CI mX12_octet 900 [.ref 164, .int x1] m1 (fun z2 m2 => z1 = z2 ∧ Inv (u + 1) m2))
/-- on -/
def lw_S30 (Inv : Nat → mm_M → Prop) : Prop := ∀ (u : Nat) (M : mm_M), u < 512 → mm_G M.2.2 → Inv u M → mm_CI mX11_on 900 [.ref 0] M (fun z1 m1 => mm_CI mX12_on 900 [.ref 164] m1 (fun z2 m2 => z1 = z2 ∧ Inv (u + 1) m2))
/-- status -/
def lw_S31 (Inv : Nat → mm_M → Prop) : Prop := ∀ (u : Nat) (M : mm_M) (x1 : Int32), u < 512 → mm_G M.2.2 → Inv u M → mm_CI mX11_status 900 [.ref 0, .int x1] M (fun z1 m1 => mm_CI mX12_status 900 [.ref 164, .int x1] m1 (fun z2 m2 => z1 = z2 ∧ Inv (u + 1) m2))
set_option maxRecDepth 100000 in
set_option maxHeartbeats 4000000 in
theorem lw_c0 {Inv : Nat → mm_M → Prop} (S : lw_S0 Inv) {p : Program} {l : Launch} {e : Env} {s : State} {m : MethodId} {below : List Frame} {meth : Method} {c : Code} {b L : Nat} {xs : Nat → Int32} {aT : Nat → ClassId} {D : va_G} {k n t : Nat} {u : Nat} {M : mm_M} (hu : u < 512) (C : ml_ok p s m meth c b L xs aT D) (hL : L ≤ 3072) (ht : t + 6 ≤ L) (hk : k ≤ 600000) (hn : n ≤ 7302250) (hG : mm_G M.2.2) (hI : Inv u M) (kk : ∀ M : mm_M, mm_G M.2.2 → Inv (u + 1) M → ml_W p l e s m below meth c b aT D 1043 [(0, .ref b), (1, .ref (s.heap.size + 0)), (2, .ref (s.heap.size + 164)), (3, .int (nI t))] [] mm_SH M k n) : ml_W p l e s m below meth c b aT D 176 [(0, .ref b), (1, .ref (s.heap.size + 0)), (2, .ref (s.heap.size + 164)), (3, .int (nI t))] [] mm_SH M k n := by
  refine ml_aload_n C (pc := 176) (j := 1) dL_law_176 rfl rfl ?_
  refine ml_aload_n C (pc := 177) (j := 0) dL_law_177 rfl rfl ?_
  refine ml_iload_n C (pc := 178) (j := 3) dL_law_178 rfl rfl ?_
  refine ml_iconst C (pc := 179) (x := 1) dL_law_179 rfl ?_
  refine ml_iadd C (pc := 180) dL_law_180 ?_
  refine ml_sld C (pc := 181) (lw_ix (q := 1) ht hL (by decide)) dL_law_181 ?_
  refine ml_aload_n C (pc := 182) (j := 0) dL_law_182 rfl rfl ?_
  refine ml_iload_n C (pc := 183) (j := 3) dL_law_183 rfl rfl ?_
  refine ml_iconst C (pc := 184) (x := 2) dL_law_184 rfl ?_
  refine ml_iadd C (pc := 185) dL_law_185 ?_
  refine ml_sld C (pc := 186) (lw_ix (q := 2) ht hL (by decide)) dL_law_186 ?_
  refine ml_aload_n C (pc := 187) (j := 0) dL_law_187 rfl rfl ?_
  refine ml_iload_n C (pc := 188) (j := 3) dL_law_188 rfl rfl ?_
  refine ml_iconst C (pc := 189) (x := 3) dL_law_189 rfl ?_
  refine ml_iadd C (pc := 190) dL_law_190 ?_
  refine ml_sld C (pc := 191) (lw_ix (q := 3) ht hL (by decide)) dL_law_191 ?_
  refine ml_aload_n C (pc := 192) (j := 0) dL_law_192 rfl rfl ?_
  refine ml_iload_n C (pc := 193) (j := 3) dL_law_193 rfl rfl ?_
  refine ml_iconst C (pc := 194) (x := 4) dL_law_194 rfl ?_
  refine ml_iadd C (pc := 195) dL_law_195 ?_
  refine ml_sld C (pc := 196) (lw_ix (q := 4) ht hL (by decide)) dL_law_196 ?_
  refine ml_aload_n C (pc := 197) (j := 0) dL_law_197 rfl rfl ?_
  refine ml_iload_n C (pc := 198) (j := 3) dL_law_198 rfl rfl ?_
  refine ml_iconst C (pc := 199) (x := 5) dL_law_199 rfl ?_
  refine ml_iadd C (pc := 200) dL_law_200 ?_
  refine ml_sld C (pc := 201) (lw_ix (q := 5) ht hL (by decide)) dL_law_201 ?_
  refine ml_callV C (pc := 202) (As := [.int (xs (nI t + 1).toNatClampNeg), .int (xs (nI t + 2).toNatClampNeg), .int (xs (nI t + 3).toNatClampNeg), .int (xs (nI t + 4).toNatClampNeg), .int (xs (nI t + 5).toNatClampNeg)]) (rest := []) (a := 0) dL_law_202 kL_13 rfl sh_0 (Nat.le_of_ble_eq_true rfl) (Nat.le_of_ble_eq_true rfl) hk hn (S u M (xs (nI t + 1).toNatClampNeg) (xs (nI t + 2).toNatClampNeg) (xs (nI t + 3).toNatClampNeg) (xs (nI t + 4).toNatClampNeg) (xs (nI t + 5).toNatClampNeg) hu hG hI) (fun r sh2 M2 hq => ?_)
  obtain ⟨z1, rfl, rfl, hG1, h1⟩ := hq
  refine ml_aload_n C (pc := 205) (j := 2) dL_law_205 rfl rfl ?_
  refine ml_aload_n C (pc := 206) (j := 0) dL_law_206 rfl rfl ?_
  refine ml_iload_n C (pc := 207) (j := 3) dL_law_207 rfl rfl ?_
  refine ml_iconst C (pc := 208) (x := 1) dL_law_208 rfl ?_
  refine ml_iadd C (pc := 209) dL_law_209 ?_
  refine ml_sld C (pc := 210) (lw_ix (q := 1) ht hL (by decide)) dL_law_210 ?_
  refine ml_aload_n C (pc := 211) (j := 0) dL_law_211 rfl rfl ?_
  refine ml_iload_n C (pc := 212) (j := 3) dL_law_212 rfl rfl ?_
  refine ml_iconst C (pc := 213) (x := 2) dL_law_213 rfl ?_
  refine ml_iadd C (pc := 214) dL_law_214 ?_
  refine ml_sld C (pc := 215) (lw_ix (q := 2) ht hL (by decide)) dL_law_215 ?_
  refine ml_aload_n C (pc := 216) (j := 0) dL_law_216 rfl rfl ?_
  refine ml_iload_n C (pc := 217) (j := 3) dL_law_217 rfl rfl ?_
  refine ml_iconst C (pc := 218) (x := 3) dL_law_218 rfl ?_
  refine ml_iadd C (pc := 219) dL_law_219 ?_
  refine ml_sld C (pc := 220) (lw_ix (q := 3) ht hL (by decide)) dL_law_220 ?_
  refine ml_aload_n C (pc := 221) (j := 0) dL_law_221 rfl rfl ?_
  refine ml_iload_n C (pc := 222) (j := 3) dL_law_222 rfl rfl ?_
  refine ml_iconst C (pc := 223) (x := 4) dL_law_223 rfl ?_
  refine ml_iadd C (pc := 224) dL_law_224 ?_
  refine ml_sld C (pc := 225) (lw_ix (q := 4) ht hL (by decide)) dL_law_225 ?_
  refine ml_aload_n C (pc := 226) (j := 0) dL_law_226 rfl rfl ?_
  refine ml_iload_n C (pc := 227) (j := 3) dL_law_227 rfl rfl ?_
  refine ml_iconst C (pc := 228) (x := 5) dL_law_228 rfl ?_
  refine ml_iadd C (pc := 229) dL_law_229 ?_
  refine ml_sld C (pc := 230) (lw_ix (q := 5) ht hL (by decide)) dL_law_230 ?_
  refine ml_callV C (pc := 231) (As := [.int (xs (nI t + 1).toNatClampNeg), .int (xs (nI t + 2).toNatClampNeg), .int (xs (nI t + 3).toNatClampNeg), .int (xs (nI t + 4).toNatClampNeg), .int (xs (nI t + 5).toNatClampNeg)]) (rest := [.int z1]) (a := 164) dL_law_231 kL_17 rfl sh_164 (Nat.le_of_ble_eq_true rfl) (Nat.le_of_ble_eq_true rfl) hk hn h1 (fun r sh2 M3 hq => ?_)
  obtain ⟨z2, rfl, rfl, hG2, he, hI2⟩ := hq
  refine ml_icmp_eq C (pc := 234) (tgt := 1043) dL_law_234 (by decide) (fun _ => kk M3 hG2 hI2) (fun h => absurd he h)
set_option maxRecDepth 100000 in
set_option maxHeartbeats 4000000 in
theorem lw_c1 {Inv : Nat → mm_M → Prop} (S : lw_S1 Inv) {p : Program} {l : Launch} {e : Env} {s : State} {m : MethodId} {below : List Frame} {meth : Method} {c : Code} {b L : Nat} {xs : Nat → Int32} {aT : Nat → ClassId} {D : va_G} {k n t : Nat} {u : Nat} {M : mm_M} (hu : u < 512) (C : ml_ok p s m meth c b L xs aT D) (hL : L ≤ 3072) (ht : t + 6 ≤ L) (hk : k ≤ 600000) (hn : n ≤ 7302250) (hG : mm_G M.2.2) (hI : Inv u M) (kk : ∀ M : mm_M, mm_G M.2.2 → Inv (u + 1) M → ml_W p l e s m below meth c b aT D 1043 [(0, .ref b), (1, .ref (s.heap.size + 0)), (2, .ref (s.heap.size + 164)), (3, .int (nI t))] [] mm_SH M k n) : ml_W p l e s m below meth c b aT D 239 [(0, .ref b), (1, .ref (s.heap.size + 0)), (2, .ref (s.heap.size + 164)), (3, .int (nI t))] [] mm_SH M k n := by
  refine ml_aload_n C (pc := 239) (j := 1) dL_law_239 rfl rfl ?_
  refine ml_aload_n C (pc := 240) (j := 0) dL_law_240 rfl rfl ?_
  refine ml_iload_n C (pc := 241) (j := 3) dL_law_241 rfl rfl ?_
  refine ml_iconst C (pc := 242) (x := 1) dL_law_242 rfl ?_
  refine ml_iadd C (pc := 243) dL_law_243 ?_
  refine ml_sld C (pc := 244) (lw_ix (q := 1) ht hL (by decide)) dL_law_244 ?_
  refine ml_callV C (pc := 245) (As := [.int (xs (nI t + 1).toNatClampNeg)]) (rest := []) (a := 0) dL_law_245 kL_18 rfl sh_0 (Nat.le_of_ble_eq_true rfl) (Nat.le_of_ble_eq_true rfl) hk hn (S u M (xs (nI t + 1).toNatClampNeg) hu hG hI) (fun r sh2 M2 hq => ?_)
  obtain ⟨z1, rfl, rfl, hG1, h1⟩ := hq
  refine ml_aload_n C (pc := 248) (j := 2) dL_law_248 rfl rfl ?_
  refine ml_aload_n C (pc := 249) (j := 0) dL_law_249 rfl rfl ?_
  refine ml_iload_n C (pc := 250) (j := 3) dL_law_250 rfl rfl ?_
  refine ml_iconst C (pc := 251) (x := 1) dL_law_251 rfl ?_
  refine ml_iadd C (pc := 252) dL_law_252 ?_
  refine ml_sld C (pc := 253) (lw_ix (q := 1) ht hL (by decide)) dL_law_253 ?_
  refine ml_callV C (pc := 254) (As := [.int (xs (nI t + 1).toNatClampNeg)]) (rest := [.int z1]) (a := 164) dL_law_254 kL_22 rfl sh_164 (Nat.le_of_ble_eq_true rfl) (Nat.le_of_ble_eq_true rfl) hk hn h1 (fun r sh2 M3 hq => ?_)
  obtain ⟨z2, rfl, rfl, hG2, he, hI2⟩ := hq
  refine ml_icmp_eq C (pc := 257) (tgt := 1043) dL_law_257 (by decide) (fun _ => kk M3 hG2 hI2) (fun h => absurd he h)
set_option maxRecDepth 100000 in
set_option maxHeartbeats 4000000 in
theorem lw_c2 {Inv : Nat → mm_M → Prop} (S : lw_S2 Inv) {p : Program} {l : Launch} {e : Env} {s : State} {m : MethodId} {below : List Frame} {meth : Method} {c : Code} {b L : Nat} {xs : Nat → Int32} {aT : Nat → ClassId} {D : va_G} {k n t : Nat} {u : Nat} {M : mm_M} (hu : u < 512) (C : ml_ok p s m meth c b L xs aT D) (hL : L ≤ 3072) (ht : t + 6 ≤ L) (hk : k ≤ 600000) (hn : n ≤ 7302250) (hG : mm_G M.2.2) (hI : Inv u M) (kk : ∀ M : mm_M, mm_G M.2.2 → Inv (u + 1) M → ml_W p l e s m below meth c b aT D 1043 [(0, .ref b), (1, .ref (s.heap.size + 0)), (2, .ref (s.heap.size + 164)), (3, .int (nI t))] [] mm_SH M k n) : ml_W p l e s m below meth c b aT D 262 [(0, .ref b), (1, .ref (s.heap.size + 0)), (2, .ref (s.heap.size + 164)), (3, .int (nI t))] [] mm_SH M k n := by
  refine ml_aload_n C (pc := 262) (j := 1) dL_law_262 rfl rfl ?_
  refine ml_callV C (pc := 263) (As := []) (rest := []) (a := 0) dL_law_263 kL_23 rfl sh_0 (Nat.le_of_ble_eq_true rfl) (Nat.le_of_ble_eq_true rfl) hk hn (S u M hu hG hI) (fun r sh2 M2 hq => ?_)
  obtain ⟨z1, rfl, rfl, hG1, h1⟩ := hq
  refine ml_aload_n C (pc := 266) (j := 2) dL_law_266 rfl rfl ?_
  refine ml_callV C (pc := 267) (As := []) (rest := [.int z1]) (a := 164) dL_law_267 kL_27 rfl sh_164 (Nat.le_of_ble_eq_true rfl) (Nat.le_of_ble_eq_true rfl) hk hn h1 (fun r sh2 M3 hq => ?_)
  obtain ⟨z2, rfl, rfl, hG2, he, hI2⟩ := hq
  refine ml_icmp_eq C (pc := 270) (tgt := 1043) dL_law_270 (by decide) (fun _ => kk M3 hG2 hI2) (fun h => absurd he h)
set_option maxRecDepth 100000 in
set_option maxHeartbeats 4000000 in
theorem lw_c3 {Inv : Nat → mm_M → Prop} (S : lw_S3 Inv) {p : Program} {l : Launch} {e : Env} {s : State} {m : MethodId} {below : List Frame} {meth : Method} {c : Code} {b L : Nat} {xs : Nat → Int32} {aT : Nat → ClassId} {D : va_G} {k n t : Nat} {u : Nat} {M : mm_M} (hu : u < 512) (C : ml_ok p s m meth c b L xs aT D) (hL : L ≤ 3072) (ht : t + 6 ≤ L) (hk : k ≤ 600000) (hn : n ≤ 7302250) (hG : mm_G M.2.2) (hI : Inv u M) (kk : ∀ M : mm_M, mm_G M.2.2 → Inv (u + 1) M → ml_W p l e s m below meth c b aT D 1043 [(0, .ref b), (1, .ref (s.heap.size + 0)), (2, .ref (s.heap.size + 164)), (3, .int (nI t))] [] mm_SH M k n) : ml_W p l e s m below meth c b aT D 275 [(0, .ref b), (1, .ref (s.heap.size + 0)), (2, .ref (s.heap.size + 164)), (3, .int (nI t))] [] mm_SH M k n := by
  refine ml_aload_n C (pc := 275) (j := 1) dL_law_275 rfl rfl ?_
  refine ml_aload_n C (pc := 276) (j := 0) dL_law_276 rfl rfl ?_
  refine ml_iload_n C (pc := 277) (j := 3) dL_law_277 rfl rfl ?_
  refine ml_iconst C (pc := 278) (x := 1) dL_law_278 rfl ?_
  refine ml_iadd C (pc := 279) dL_law_279 ?_
  refine ml_sld C (pc := 280) (lw_ix (q := 1) ht hL (by decide)) dL_law_280 ?_
  refine ml_callV C (pc := 281) (As := [.int (xs (nI t + 1).toNatClampNeg)]) (rest := []) (a := 0) dL_law_281 kL_28 rfl sh_0 (Nat.le_of_ble_eq_true rfl) (Nat.le_of_ble_eq_true rfl) hk hn (S u M (xs (nI t + 1).toNatClampNeg) hu hG hI) (fun r sh2 M2 hq => ?_)
  obtain ⟨z1, rfl, rfl, hG1, h1⟩ := hq
  refine ml_aload_n C (pc := 284) (j := 2) dL_law_284 rfl rfl ?_
  refine ml_aload_n C (pc := 285) (j := 0) dL_law_285 rfl rfl ?_
  refine ml_iload_n C (pc := 286) (j := 3) dL_law_286 rfl rfl ?_
  refine ml_iconst C (pc := 287) (x := 1) dL_law_287 rfl ?_
  refine ml_iadd C (pc := 288) dL_law_288 ?_
  refine ml_sld C (pc := 289) (lw_ix (q := 1) ht hL (by decide)) dL_law_289 ?_
  refine ml_callV C (pc := 290) (As := [.int (xs (nI t + 1).toNatClampNeg)]) (rest := [.int z1]) (a := 164) dL_law_290 kL_32 rfl sh_164 (Nat.le_of_ble_eq_true rfl) (Nat.le_of_ble_eq_true rfl) hk hn h1 (fun r sh2 M3 hq => ?_)
  obtain ⟨z2, rfl, rfl, hG2, he, hI2⟩ := hq
  refine ml_icmp_eq C (pc := 293) (tgt := 1043) dL_law_293 (by decide) (fun _ => kk M3 hG2 hI2) (fun h => absurd he h)
set_option maxRecDepth 100000 in
set_option maxHeartbeats 4000000 in
theorem lw_c4 {Inv : Nat → mm_M → Prop} (S : lw_S4 Inv) {p : Program} {l : Launch} {e : Env} {s : State} {m : MethodId} {below : List Frame} {meth : Method} {c : Code} {b L : Nat} {xs : Nat → Int32} {aT : Nat → ClassId} {D : va_G} {k n t : Nat} {u : Nat} {M : mm_M} (hu : u < 512) (C : ml_ok p s m meth c b L xs aT D) (hL : L ≤ 3072) (ht : t + 6 ≤ L) (hk : k ≤ 600000) (hn : n ≤ 7302250) (hG : mm_G M.2.2) (hI : Inv u M) (kk : ∀ M : mm_M, mm_G M.2.2 → Inv (u + 1) M → ml_W p l e s m below meth c b aT D 1043 [(0, .ref b), (1, .ref (s.heap.size + 0)), (2, .ref (s.heap.size + 164)), (3, .int (nI t))] [] mm_SH M k n) : ml_W p l e s m below meth c b aT D 298 [(0, .ref b), (1, .ref (s.heap.size + 0)), (2, .ref (s.heap.size + 164)), (3, .int (nI t))] [] mm_SH M k n := by
  refine ml_aload_n C (pc := 298) (j := 1) dL_law_298 rfl rfl ?_
  refine ml_aload_n C (pc := 299) (j := 0) dL_law_299 rfl rfl ?_
  refine ml_iload_n C (pc := 300) (j := 3) dL_law_300 rfl rfl ?_
  refine ml_iconst C (pc := 301) (x := 1) dL_law_301 rfl ?_
  refine ml_iadd C (pc := 302) dL_law_302 ?_
  refine ml_sld C (pc := 303) (lw_ix (q := 1) ht hL (by decide)) dL_law_303 ?_
  refine ml_callV C (pc := 304) (As := [.int (xs (nI t + 1).toNatClampNeg)]) (rest := []) (a := 0) dL_law_304 kL_33 rfl sh_0 (Nat.le_of_ble_eq_true rfl) (Nat.le_of_ble_eq_true rfl) hk hn (S u M (xs (nI t + 1).toNatClampNeg) hu hG hI) (fun r sh2 M2 hq => ?_)
  obtain ⟨z1, rfl, rfl, hG1, h1⟩ := hq
  refine ml_aload_n C (pc := 307) (j := 2) dL_law_307 rfl rfl ?_
  refine ml_aload_n C (pc := 308) (j := 0) dL_law_308 rfl rfl ?_
  refine ml_iload_n C (pc := 309) (j := 3) dL_law_309 rfl rfl ?_
  refine ml_iconst C (pc := 310) (x := 1) dL_law_310 rfl ?_
  refine ml_iadd C (pc := 311) dL_law_311 ?_
  refine ml_sld C (pc := 312) (lw_ix (q := 1) ht hL (by decide)) dL_law_312 ?_
  refine ml_callV C (pc := 313) (As := [.int (xs (nI t + 1).toNatClampNeg)]) (rest := [.int z1]) (a := 164) dL_law_313 kL_36 rfl sh_164 (Nat.le_of_ble_eq_true rfl) (Nat.le_of_ble_eq_true rfl) hk hn h1 (fun r sh2 M3 hq => ?_)
  obtain ⟨z2, rfl, rfl, hG2, he, hI2⟩ := hq
  refine ml_icmp_eq C (pc := 316) (tgt := 1043) dL_law_316 (by decide) (fun _ => kk M3 hG2 hI2) (fun h => absurd he h)
set_option maxRecDepth 100000 in
set_option maxHeartbeats 4000000 in
theorem lw_c5 {Inv : Nat → mm_M → Prop} (S : lw_S5 Inv) {p : Program} {l : Launch} {e : Env} {s : State} {m : MethodId} {below : List Frame} {meth : Method} {c : Code} {b L : Nat} {xs : Nat → Int32} {aT : Nat → ClassId} {D : va_G} {k n t : Nat} {u : Nat} {M : mm_M} (hu : u < 512) (C : ml_ok p s m meth c b L xs aT D) (hL : L ≤ 3072) (ht : t + 6 ≤ L) (hk : k ≤ 600000) (hn : n ≤ 7302250) (hG : mm_G M.2.2) (hI : Inv u M) (kk : ∀ M : mm_M, mm_G M.2.2 → Inv (u + 1) M → ml_W p l e s m below meth c b aT D 1043 [(0, .ref b), (1, .ref (s.heap.size + 0)), (2, .ref (s.heap.size + 164)), (3, .int (nI t))] [] mm_SH M k n) : ml_W p l e s m below meth c b aT D 321 [(0, .ref b), (1, .ref (s.heap.size + 0)), (2, .ref (s.heap.size + 164)), (3, .int (nI t))] [] mm_SH M k n := by
  refine ml_aload_n C (pc := 321) (j := 1) dL_law_321 rfl rfl ?_
  refine ml_aload_n C (pc := 322) (j := 0) dL_law_322 rfl rfl ?_
  refine ml_iload_n C (pc := 323) (j := 3) dL_law_323 rfl rfl ?_
  refine ml_iconst C (pc := 324) (x := 1) dL_law_324 rfl ?_
  refine ml_iadd C (pc := 325) dL_law_325 ?_
  refine ml_sld C (pc := 326) (lw_ix (q := 1) ht hL (by decide)) dL_law_326 ?_
  refine ml_aload_n C (pc := 327) (j := 0) dL_law_327 rfl rfl ?_
  refine ml_iload_n C (pc := 328) (j := 3) dL_law_328 rfl rfl ?_
  refine ml_iconst C (pc := 329) (x := 2) dL_law_329 rfl ?_
  refine ml_iadd C (pc := 330) dL_law_330 ?_
  refine ml_sld C (pc := 331) (lw_ix (q := 2) ht hL (by decide)) dL_law_331 ?_
  refine ml_callV C (pc := 332) (As := [.int (xs (nI t + 1).toNatClampNeg), .int (xs (nI t + 2).toNatClampNeg)]) (rest := []) (a := 0) dL_law_332 kL_37 rfl sh_0 (Nat.le_of_ble_eq_true rfl) (Nat.le_of_ble_eq_true rfl) hk hn (S u M (xs (nI t + 1).toNatClampNeg) (xs (nI t + 2).toNatClampNeg) hu hG hI) (fun r sh2 M2 hq => ?_)
  obtain ⟨z1, rfl, rfl, hG1, h1⟩ := hq
  refine ml_aload_n C (pc := 335) (j := 2) dL_law_335 rfl rfl ?_
  refine ml_aload_n C (pc := 336) (j := 0) dL_law_336 rfl rfl ?_
  refine ml_iload_n C (pc := 337) (j := 3) dL_law_337 rfl rfl ?_
  refine ml_iconst C (pc := 338) (x := 1) dL_law_338 rfl ?_
  refine ml_iadd C (pc := 339) dL_law_339 ?_
  refine ml_sld C (pc := 340) (lw_ix (q := 1) ht hL (by decide)) dL_law_340 ?_
  refine ml_aload_n C (pc := 341) (j := 0) dL_law_341 rfl rfl ?_
  refine ml_iload_n C (pc := 342) (j := 3) dL_law_342 rfl rfl ?_
  refine ml_iconst C (pc := 343) (x := 2) dL_law_343 rfl ?_
  refine ml_iadd C (pc := 344) dL_law_344 ?_
  refine ml_sld C (pc := 345) (lw_ix (q := 2) ht hL (by decide)) dL_law_345 ?_
  refine ml_callV C (pc := 346) (As := [.int (xs (nI t + 1).toNatClampNeg), .int (xs (nI t + 2).toNatClampNeg)]) (rest := [.int z1]) (a := 164) dL_law_346 kL_41 rfl sh_164 (Nat.le_of_ble_eq_true rfl) (Nat.le_of_ble_eq_true rfl) hk hn h1 (fun r sh2 M3 hq => ?_)
  obtain ⟨z2, rfl, rfl, hG2, he, hI2⟩ := hq
  refine ml_icmp_eq C (pc := 349) (tgt := 1043) dL_law_349 (by decide) (fun _ => kk M3 hG2 hI2) (fun h => absurd he h)
set_option maxRecDepth 100000 in
set_option maxHeartbeats 4000000 in
theorem lw_c6 {Inv : Nat → mm_M → Prop} (S : lw_S6 Inv) {p : Program} {l : Launch} {e : Env} {s : State} {m : MethodId} {below : List Frame} {meth : Method} {c : Code} {b L : Nat} {xs : Nat → Int32} {aT : Nat → ClassId} {D : va_G} {k n t : Nat} {u : Nat} {M : mm_M} (hu : u < 512) (C : ml_ok p s m meth c b L xs aT D) (hL : L ≤ 3072) (ht : t + 6 ≤ L) (hk : k ≤ 600000) (hn : n ≤ 7302250) (hG : mm_G M.2.2) (hI : Inv u M) (kk : ∀ M : mm_M, mm_G M.2.2 → Inv (u + 1) M → ml_W p l e s m below meth c b aT D 1043 [(0, .ref b), (1, .ref (s.heap.size + 0)), (2, .ref (s.heap.size + 164)), (3, .int (nI t))] [] mm_SH M k n) : ml_W p l e s m below meth c b aT D 354 [(0, .ref b), (1, .ref (s.heap.size + 0)), (2, .ref (s.heap.size + 164)), (3, .int (nI t))] [] mm_SH M k n := by
  refine ml_aload_n C (pc := 354) (j := 1) dL_law_354 rfl rfl ?_
  refine ml_aload_n C (pc := 355) (j := 0) dL_law_355 rfl rfl ?_
  refine ml_iload_n C (pc := 356) (j := 3) dL_law_356 rfl rfl ?_
  refine ml_iconst C (pc := 357) (x := 1) dL_law_357 rfl ?_
  refine ml_iadd C (pc := 358) dL_law_358 ?_
  refine ml_sld C (pc := 359) (lw_ix (q := 1) ht hL (by decide)) dL_law_359 ?_
  refine ml_aload_n C (pc := 360) (j := 0) dL_law_360 rfl rfl ?_
  refine ml_iload_n C (pc := 361) (j := 3) dL_law_361 rfl rfl ?_
  refine ml_iconst C (pc := 362) (x := 2) dL_law_362 rfl ?_
  refine ml_iadd C (pc := 363) dL_law_363 ?_
  refine ml_sld C (pc := 364) (lw_ix (q := 2) ht hL (by decide)) dL_law_364 ?_
  refine ml_callV C (pc := 365) (As := [.int (xs (nI t + 1).toNatClampNeg), .int (xs (nI t + 2).toNatClampNeg)]) (rest := []) (a := 0) dL_law_365 kL_42 rfl sh_0 (Nat.le_of_ble_eq_true rfl) (Nat.le_of_ble_eq_true rfl) hk hn (S u M (xs (nI t + 1).toNatClampNeg) (xs (nI t + 2).toNatClampNeg) hu hG hI) (fun r sh2 M2 hq => ?_)
  obtain ⟨z1, rfl, rfl, hG1, h1⟩ := hq
  refine ml_aload_n C (pc := 368) (j := 2) dL_law_368 rfl rfl ?_
  refine ml_aload_n C (pc := 369) (j := 0) dL_law_369 rfl rfl ?_
  refine ml_iload_n C (pc := 370) (j := 3) dL_law_370 rfl rfl ?_
  refine ml_iconst C (pc := 371) (x := 1) dL_law_371 rfl ?_
  refine ml_iadd C (pc := 372) dL_law_372 ?_
  refine ml_sld C (pc := 373) (lw_ix (q := 1) ht hL (by decide)) dL_law_373 ?_
  refine ml_aload_n C (pc := 374) (j := 0) dL_law_374 rfl rfl ?_
  refine ml_iload_n C (pc := 375) (j := 3) dL_law_375 rfl rfl ?_
  refine ml_iconst C (pc := 376) (x := 2) dL_law_376 rfl ?_
  refine ml_iadd C (pc := 377) dL_law_377 ?_
  refine ml_sld C (pc := 378) (lw_ix (q := 2) ht hL (by decide)) dL_law_378 ?_
  refine ml_callV C (pc := 379) (As := [.int (xs (nI t + 1).toNatClampNeg), .int (xs (nI t + 2).toNatClampNeg)]) (rest := [.int z1]) (a := 164) dL_law_379 kL_45 rfl sh_164 (Nat.le_of_ble_eq_true rfl) (Nat.le_of_ble_eq_true rfl) hk hn h1 (fun r sh2 M3 hq => ?_)
  obtain ⟨z2, rfl, rfl, hG2, he, hI2⟩ := hq
  refine ml_icmp_eq C (pc := 382) (tgt := 1043) dL_law_382 (by decide) (fun _ => kk M3 hG2 hI2) (fun h => absurd he h)
set_option maxRecDepth 100000 in
set_option maxHeartbeats 4000000 in
theorem lw_c7 {Inv : Nat → mm_M → Prop} (S : lw_S7 Inv) {p : Program} {l : Launch} {e : Env} {s : State} {m : MethodId} {below : List Frame} {meth : Method} {c : Code} {b L : Nat} {xs : Nat → Int32} {aT : Nat → ClassId} {D : va_G} {k n t : Nat} {u : Nat} {M : mm_M} (hu : u < 512) (C : ml_ok p s m meth c b L xs aT D) (hL : L ≤ 3072) (ht : t + 6 ≤ L) (hk : k ≤ 600000) (hn : n ≤ 7302250) (hG : mm_G M.2.2) (hI : Inv u M) (kk : ∀ M : mm_M, mm_G M.2.2 → Inv (u + 1) M → ml_W p l e s m below meth c b aT D 1043 [(0, .ref b), (1, .ref (s.heap.size + 0)), (2, .ref (s.heap.size + 164)), (3, .int (nI t))] [] mm_SH M k n) : ml_W p l e s m below meth c b aT D 387 [(0, .ref b), (1, .ref (s.heap.size + 0)), (2, .ref (s.heap.size + 164)), (3, .int (nI t))] [] mm_SH M k n := by
  refine ml_aload_n C (pc := 387) (j := 1) dL_law_387 rfl rfl ?_
  refine ml_aload_n C (pc := 388) (j := 0) dL_law_388 rfl rfl ?_
  refine ml_iload_n C (pc := 389) (j := 3) dL_law_389 rfl rfl ?_
  refine ml_iconst C (pc := 390) (x := 1) dL_law_390 rfl ?_
  refine ml_iadd C (pc := 391) dL_law_391 ?_
  refine ml_sld C (pc := 392) (lw_ix (q := 1) ht hL (by decide)) dL_law_392 ?_
  refine ml_aload_n C (pc := 393) (j := 0) dL_law_393 rfl rfl ?_
  refine ml_iload_n C (pc := 394) (j := 3) dL_law_394 rfl rfl ?_
  refine ml_iconst C (pc := 395) (x := 2) dL_law_395 rfl ?_
  refine ml_iadd C (pc := 396) dL_law_396 ?_
  refine ml_sld C (pc := 397) (lw_ix (q := 2) ht hL (by decide)) dL_law_397 ?_
  refine ml_callV C (pc := 398) (As := [.int (xs (nI t + 1).toNatClampNeg), .int (xs (nI t + 2).toNatClampNeg)]) (rest := []) (a := 0) dL_law_398 kL_46 rfl sh_0 (Nat.le_of_ble_eq_true rfl) (Nat.le_of_ble_eq_true rfl) hk hn (S u M (xs (nI t + 1).toNatClampNeg) (xs (nI t + 2).toNatClampNeg) hu hG hI) (fun r sh2 M2 hq => ?_)
  obtain ⟨z1, rfl, rfl, hG1, h1⟩ := hq
  refine ml_aload_n C (pc := 401) (j := 2) dL_law_401 rfl rfl ?_
  refine ml_aload_n C (pc := 402) (j := 0) dL_law_402 rfl rfl ?_
  refine ml_iload_n C (pc := 403) (j := 3) dL_law_403 rfl rfl ?_
  refine ml_iconst C (pc := 404) (x := 1) dL_law_404 rfl ?_
  refine ml_iadd C (pc := 405) dL_law_405 ?_
  refine ml_sld C (pc := 406) (lw_ix (q := 1) ht hL (by decide)) dL_law_406 ?_
  refine ml_aload_n C (pc := 407) (j := 0) dL_law_407 rfl rfl ?_
  refine ml_iload_n C (pc := 408) (j := 3) dL_law_408 rfl rfl ?_
  refine ml_iconst C (pc := 409) (x := 2) dL_law_409 rfl ?_
  refine ml_iadd C (pc := 410) dL_law_410 ?_
  refine ml_sld C (pc := 411) (lw_ix (q := 2) ht hL (by decide)) dL_law_411 ?_
  refine ml_callV C (pc := 412) (As := [.int (xs (nI t + 1).toNatClampNeg), .int (xs (nI t + 2).toNatClampNeg)]) (rest := [.int z1]) (a := 164) dL_law_412 kL_49 rfl sh_164 (Nat.le_of_ble_eq_true rfl) (Nat.le_of_ble_eq_true rfl) hk hn h1 (fun r sh2 M3 hq => ?_)
  obtain ⟨z2, rfl, rfl, hG2, he, hI2⟩ := hq
  refine ml_icmp_eq C (pc := 415) (tgt := 1043) dL_law_415 (by decide) (fun _ => kk M3 hG2 hI2) (fun h => absurd he h)
set_option maxRecDepth 100000 in
set_option maxHeartbeats 4000000 in
theorem lw_c8 {Inv : Nat → mm_M → Prop} (S : lw_S8 Inv) {p : Program} {l : Launch} {e : Env} {s : State} {m : MethodId} {below : List Frame} {meth : Method} {c : Code} {b L : Nat} {xs : Nat → Int32} {aT : Nat → ClassId} {D : va_G} {k n t : Nat} {u : Nat} {M : mm_M} (hu : u < 512) (C : ml_ok p s m meth c b L xs aT D) (hL : L ≤ 3072) (ht : t + 6 ≤ L) (hk : k ≤ 600000) (hn : n ≤ 7302250) (hG : mm_G M.2.2) (hI : Inv u M) (kk : ∀ M : mm_M, mm_G M.2.2 → Inv (u + 1) M → ml_W p l e s m below meth c b aT D 1043 [(0, .ref b), (1, .ref (s.heap.size + 0)), (2, .ref (s.heap.size + 164)), (3, .int (nI t))] [] mm_SH M k n) : ml_W p l e s m below meth c b aT D 420 [(0, .ref b), (1, .ref (s.heap.size + 0)), (2, .ref (s.heap.size + 164)), (3, .int (nI t))] [] mm_SH M k n := by
  refine ml_aload_n C (pc := 420) (j := 1) dL_law_420 rfl rfl ?_
  refine ml_aload_n C (pc := 421) (j := 0) dL_law_421 rfl rfl ?_
  refine ml_iload_n C (pc := 422) (j := 3) dL_law_422 rfl rfl ?_
  refine ml_iconst C (pc := 423) (x := 1) dL_law_423 rfl ?_
  refine ml_iadd C (pc := 424) dL_law_424 ?_
  refine ml_sld C (pc := 425) (lw_ix (q := 1) ht hL (by decide)) dL_law_425 ?_
  refine ml_callV C (pc := 426) (As := [.int (xs (nI t + 1).toNatClampNeg)]) (rest := []) (a := 0) dL_law_426 kL_50 rfl sh_0 (Nat.le_of_ble_eq_true rfl) (Nat.le_of_ble_eq_true rfl) hk hn (S u M (xs (nI t + 1).toNatClampNeg) hu hG hI) (fun r sh2 M2 hq => ?_)
  obtain ⟨z1, rfl, rfl, hG1, h1⟩ := hq
  refine ml_aload_n C (pc := 429) (j := 2) dL_law_429 rfl rfl ?_
  refine ml_aload_n C (pc := 430) (j := 0) dL_law_430 rfl rfl ?_
  refine ml_iload_n C (pc := 431) (j := 3) dL_law_431 rfl rfl ?_
  refine ml_iconst C (pc := 432) (x := 1) dL_law_432 rfl ?_
  refine ml_iadd C (pc := 433) dL_law_433 ?_
  refine ml_sld C (pc := 434) (lw_ix (q := 1) ht hL (by decide)) dL_law_434 ?_
  refine ml_callV C (pc := 435) (As := [.int (xs (nI t + 1).toNatClampNeg)]) (rest := [.int z1]) (a := 164) dL_law_435 kL_53 rfl sh_164 (Nat.le_of_ble_eq_true rfl) (Nat.le_of_ble_eq_true rfl) hk hn h1 (fun r sh2 M3 hq => ?_)
  obtain ⟨z2, rfl, rfl, hG2, he, hI2⟩ := hq
  refine ml_icmp_eq C (pc := 438) (tgt := 1043) dL_law_438 (by decide) (fun _ => kk M3 hG2 hI2) (fun h => absurd he h)
set_option maxRecDepth 100000 in
set_option maxHeartbeats 4000000 in
theorem lw_c9 {Inv : Nat → mm_M → Prop} (S : lw_S9 Inv) {p : Program} {l : Launch} {e : Env} {s : State} {m : MethodId} {below : List Frame} {meth : Method} {c : Code} {b L : Nat} {xs : Nat → Int32} {aT : Nat → ClassId} {D : va_G} {k n t : Nat} {u : Nat} {M : mm_M} (hu : u < 512) (C : ml_ok p s m meth c b L xs aT D) (hL : L ≤ 3072) (ht : t + 6 ≤ L) (hk : k ≤ 600000) (hn : n ≤ 7302250) (hG : mm_G M.2.2) (hI : Inv u M) (kk : ∀ M : mm_M, mm_G M.2.2 → Inv (u + 1) M → ml_W p l e s m below meth c b aT D 1043 [(0, .ref b), (1, .ref (s.heap.size + 0)), (2, .ref (s.heap.size + 164)), (3, .int (nI t))] [] mm_SH M k n) : ml_W p l e s m below meth c b aT D 443 [(0, .ref b), (1, .ref (s.heap.size + 0)), (2, .ref (s.heap.size + 164)), (3, .int (nI t))] [] mm_SH M k n := by
  refine ml_aload_n C (pc := 443) (j := 1) dL_law_443 rfl rfl ?_
  refine ml_aload_n C (pc := 444) (j := 0) dL_law_444 rfl rfl ?_
  refine ml_iload_n C (pc := 445) (j := 3) dL_law_445 rfl rfl ?_
  refine ml_iconst C (pc := 446) (x := 1) dL_law_446 rfl ?_
  refine ml_iadd C (pc := 447) dL_law_447 ?_
  refine ml_sld C (pc := 448) (lw_ix (q := 1) ht hL (by decide)) dL_law_448 ?_
  refine ml_aload_n C (pc := 449) (j := 0) dL_law_449 rfl rfl ?_
  refine ml_iload_n C (pc := 450) (j := 3) dL_law_450 rfl rfl ?_
  refine ml_iconst C (pc := 451) (x := 2) dL_law_451 rfl ?_
  refine ml_iadd C (pc := 452) dL_law_452 ?_
  refine ml_sld C (pc := 453) (lw_ix (q := 2) ht hL (by decide)) dL_law_453 ?_
  refine ml_callV C (pc := 454) (As := [.int (xs (nI t + 1).toNatClampNeg), .int (xs (nI t + 2).toNatClampNeg)]) (rest := []) (a := 0) dL_law_454 kL_54 rfl sh_0 (Nat.le_of_ble_eq_true rfl) (Nat.le_of_ble_eq_true rfl) hk hn (S u M (xs (nI t + 1).toNatClampNeg) (xs (nI t + 2).toNatClampNeg) hu hG hI) (fun r sh2 M2 hq => ?_)
  obtain ⟨z1, rfl, rfl, hG1, h1⟩ := hq
  refine ml_aload_n C (pc := 457) (j := 2) dL_law_457 rfl rfl ?_
  refine ml_aload_n C (pc := 458) (j := 0) dL_law_458 rfl rfl ?_
  refine ml_iload_n C (pc := 459) (j := 3) dL_law_459 rfl rfl ?_
  refine ml_iconst C (pc := 460) (x := 1) dL_law_460 rfl ?_
  refine ml_iadd C (pc := 461) dL_law_461 ?_
  refine ml_sld C (pc := 462) (lw_ix (q := 1) ht hL (by decide)) dL_law_462 ?_
  refine ml_aload_n C (pc := 463) (j := 0) dL_law_463 rfl rfl ?_
  refine ml_iload_n C (pc := 464) (j := 3) dL_law_464 rfl rfl ?_
  refine ml_iconst C (pc := 465) (x := 2) dL_law_465 rfl ?_
  refine ml_iadd C (pc := 466) dL_law_466 ?_
  refine ml_sld C (pc := 467) (lw_ix (q := 2) ht hL (by decide)) dL_law_467 ?_
  refine ml_callV C (pc := 468) (As := [.int (xs (nI t + 1).toNatClampNeg), .int (xs (nI t + 2).toNatClampNeg)]) (rest := [.int z1]) (a := 164) dL_law_468 kL_57 rfl sh_164 (Nat.le_of_ble_eq_true rfl) (Nat.le_of_ble_eq_true rfl) hk hn h1 (fun r sh2 M3 hq => ?_)
  obtain ⟨z2, rfl, rfl, hG2, he, hI2⟩ := hq
  refine ml_icmp_eq C (pc := 471) (tgt := 1043) dL_law_471 (by decide) (fun _ => kk M3 hG2 hI2) (fun h => absurd he h)
set_option maxRecDepth 100000 in
set_option maxHeartbeats 4000000 in
theorem lw_c10 {Inv : Nat → mm_M → Prop} (S : lw_S10 Inv) {p : Program} {l : Launch} {e : Env} {s : State} {m : MethodId} {below : List Frame} {meth : Method} {c : Code} {b L : Nat} {xs : Nat → Int32} {aT : Nat → ClassId} {D : va_G} {k n t : Nat} {u : Nat} {M : mm_M} (hu : u < 512) (C : ml_ok p s m meth c b L xs aT D) (hL : L ≤ 3072) (ht : t + 6 ≤ L) (hk : k ≤ 600000) (hn : n ≤ 7302250) (hG : mm_G M.2.2) (hI : Inv u M) (kk : ∀ M : mm_M, mm_G M.2.2 → Inv (u + 1) M → ml_W p l e s m below meth c b aT D 1043 [(0, .ref b), (1, .ref (s.heap.size + 0)), (2, .ref (s.heap.size + 164)), (3, .int (nI t))] [] mm_SH M k n) : ml_W p l e s m below meth c b aT D 476 [(0, .ref b), (1, .ref (s.heap.size + 0)), (2, .ref (s.heap.size + 164)), (3, .int (nI t))] [] mm_SH M k n := by
  refine ml_aload_n C (pc := 476) (j := 1) dL_law_476 rfl rfl ?_
  refine ml_aload_n C (pc := 477) (j := 0) dL_law_477 rfl rfl ?_
  refine ml_iload_n C (pc := 478) (j := 3) dL_law_478 rfl rfl ?_
  refine ml_iconst C (pc := 479) (x := 1) dL_law_479 rfl ?_
  refine ml_iadd C (pc := 480) dL_law_480 ?_
  refine ml_sld C (pc := 481) (lw_ix (q := 1) ht hL (by decide)) dL_law_481 ?_
  refine ml_aload_n C (pc := 482) (j := 0) dL_law_482 rfl rfl ?_
  refine ml_iload_n C (pc := 483) (j := 3) dL_law_483 rfl rfl ?_
  refine ml_iconst C (pc := 484) (x := 2) dL_law_484 rfl ?_
  refine ml_iadd C (pc := 485) dL_law_485 ?_
  refine ml_sld C (pc := 486) (lw_ix (q := 2) ht hL (by decide)) dL_law_486 ?_
  refine ml_callV C (pc := 487) (As := [.int (xs (nI t + 1).toNatClampNeg), .int (xs (nI t + 2).toNatClampNeg)]) (rest := []) (a := 0) dL_law_487 kL_58 rfl sh_0 (Nat.le_of_ble_eq_true rfl) (Nat.le_of_ble_eq_true rfl) hk hn (S u M (xs (nI t + 1).toNatClampNeg) (xs (nI t + 2).toNatClampNeg) hu hG hI) (fun r sh2 M2 hq => ?_)
  obtain ⟨z1, rfl, rfl, hG1, h1⟩ := hq
  refine ml_aload_n C (pc := 490) (j := 2) dL_law_490 rfl rfl ?_
  refine ml_aload_n C (pc := 491) (j := 0) dL_law_491 rfl rfl ?_
  refine ml_iload_n C (pc := 492) (j := 3) dL_law_492 rfl rfl ?_
  refine ml_iconst C (pc := 493) (x := 1) dL_law_493 rfl ?_
  refine ml_iadd C (pc := 494) dL_law_494 ?_
  refine ml_sld C (pc := 495) (lw_ix (q := 1) ht hL (by decide)) dL_law_495 ?_
  refine ml_aload_n C (pc := 496) (j := 0) dL_law_496 rfl rfl ?_
  refine ml_iload_n C (pc := 497) (j := 3) dL_law_497 rfl rfl ?_
  refine ml_iconst C (pc := 498) (x := 2) dL_law_498 rfl ?_
  refine ml_iadd C (pc := 499) dL_law_499 ?_
  refine ml_sld C (pc := 500) (lw_ix (q := 2) ht hL (by decide)) dL_law_500 ?_
  refine ml_callV C (pc := 501) (As := [.int (xs (nI t + 1).toNatClampNeg), .int (xs (nI t + 2).toNatClampNeg)]) (rest := [.int z1]) (a := 164) dL_law_501 kL_61 rfl sh_164 (Nat.le_of_ble_eq_true rfl) (Nat.le_of_ble_eq_true rfl) hk hn h1 (fun r sh2 M3 hq => ?_)
  obtain ⟨z2, rfl, rfl, hG2, he, hI2⟩ := hq
  refine ml_icmp_eq C (pc := 504) (tgt := 1043) dL_law_504 (by decide) (fun _ => kk M3 hG2 hI2) (fun h => absurd he h)
set_option maxRecDepth 100000 in
set_option maxHeartbeats 4000000 in
theorem lw_c11 {Inv : Nat → mm_M → Prop} (S : lw_S11 Inv) {p : Program} {l : Launch} {e : Env} {s : State} {m : MethodId} {below : List Frame} {meth : Method} {c : Code} {b L : Nat} {xs : Nat → Int32} {aT : Nat → ClassId} {D : va_G} {k n t : Nat} {u : Nat} {M : mm_M} (hu : u < 512) (C : ml_ok p s m meth c b L xs aT D) (hL : L ≤ 3072) (ht : t + 6 ≤ L) (hk : k ≤ 600000) (hn : n ≤ 7302250) (hG : mm_G M.2.2) (hI : Inv u M) (kk : ∀ M : mm_M, mm_G M.2.2 → Inv (u + 1) M → ml_W p l e s m below meth c b aT D 1043 [(0, .ref b), (1, .ref (s.heap.size + 0)), (2, .ref (s.heap.size + 164)), (3, .int (nI t))] [] mm_SH M k n) : ml_W p l e s m below meth c b aT D 509 [(0, .ref b), (1, .ref (s.heap.size + 0)), (2, .ref (s.heap.size + 164)), (3, .int (nI t))] [] mm_SH M k n := by
  refine ml_aload_n C (pc := 509) (j := 1) dL_law_509 rfl rfl ?_
  refine ml_aload_n C (pc := 510) (j := 0) dL_law_510 rfl rfl ?_
  refine ml_iload_n C (pc := 511) (j := 3) dL_law_511 rfl rfl ?_
  refine ml_iconst C (pc := 512) (x := 1) dL_law_512 rfl ?_
  refine ml_iadd C (pc := 513) dL_law_513 ?_
  refine ml_sld C (pc := 514) (lw_ix (q := 1) ht hL (by decide)) dL_law_514 ?_
  refine ml_aload_n C (pc := 515) (j := 0) dL_law_515 rfl rfl ?_
  refine ml_iload_n C (pc := 516) (j := 3) dL_law_516 rfl rfl ?_
  refine ml_iconst C (pc := 517) (x := 2) dL_law_517 rfl ?_
  refine ml_iadd C (pc := 518) dL_law_518 ?_
  refine ml_sld C (pc := 519) (lw_ix (q := 2) ht hL (by decide)) dL_law_519 ?_
  refine ml_aload_n C (pc := 520) (j := 0) dL_law_520 rfl rfl ?_
  refine ml_iload_n C (pc := 521) (j := 3) dL_law_521 rfl rfl ?_
  refine ml_iconst C (pc := 522) (x := 3) dL_law_522 rfl ?_
  refine ml_iadd C (pc := 523) dL_law_523 ?_
  refine ml_sld C (pc := 524) (lw_ix (q := 3) ht hL (by decide)) dL_law_524 ?_
  refine ml_callV C (pc := 525) (As := [.int (xs (nI t + 1).toNatClampNeg), .int (xs (nI t + 2).toNatClampNeg), .int (xs (nI t + 3).toNatClampNeg)]) (rest := []) (a := 0) dL_law_525 kL_62 rfl sh_0 (Nat.le_of_ble_eq_true rfl) (Nat.le_of_ble_eq_true rfl) hk hn (S u M (xs (nI t + 1).toNatClampNeg) (xs (nI t + 2).toNatClampNeg) (xs (nI t + 3).toNatClampNeg) hu hG hI) (fun r sh2 M2 hq => ?_)
  obtain ⟨z1, rfl, rfl, hG1, h1⟩ := hq
  refine ml_aload_n C (pc := 528) (j := 2) dL_law_528 rfl rfl ?_
  refine ml_aload_n C (pc := 529) (j := 0) dL_law_529 rfl rfl ?_
  refine ml_iload_n C (pc := 530) (j := 3) dL_law_530 rfl rfl ?_
  refine ml_iconst C (pc := 531) (x := 1) dL_law_531 rfl ?_
  refine ml_iadd C (pc := 532) dL_law_532 ?_
  refine ml_sld C (pc := 533) (lw_ix (q := 1) ht hL (by decide)) dL_law_533 ?_
  refine ml_aload_n C (pc := 534) (j := 0) dL_law_534 rfl rfl ?_
  refine ml_iload_n C (pc := 535) (j := 3) dL_law_535 rfl rfl ?_
  refine ml_iconst C (pc := 536) (x := 2) dL_law_536 rfl ?_
  refine ml_iadd C (pc := 537) dL_law_537 ?_
  refine ml_sld C (pc := 538) (lw_ix (q := 2) ht hL (by decide)) dL_law_538 ?_
  refine ml_aload_n C (pc := 539) (j := 0) dL_law_539 rfl rfl ?_
  refine ml_iload_n C (pc := 540) (j := 3) dL_law_540 rfl rfl ?_
  refine ml_iconst C (pc := 541) (x := 3) dL_law_541 rfl ?_
  refine ml_iadd C (pc := 542) dL_law_542 ?_
  refine ml_sld C (pc := 543) (lw_ix (q := 3) ht hL (by decide)) dL_law_543 ?_
  refine ml_callV C (pc := 544) (As := [.int (xs (nI t + 1).toNatClampNeg), .int (xs (nI t + 2).toNatClampNeg), .int (xs (nI t + 3).toNatClampNeg)]) (rest := [.int z1]) (a := 164) dL_law_544 kL_66 rfl sh_164 (Nat.le_of_ble_eq_true rfl) (Nat.le_of_ble_eq_true rfl) hk hn h1 (fun r sh2 M3 hq => ?_)
  obtain ⟨z2, rfl, rfl, hG2, he, hI2⟩ := hq
  refine ml_icmp_eq C (pc := 547) (tgt := 1043) dL_law_547 (by decide) (fun _ => kk M3 hG2 hI2) (fun h => absurd he h)
set_option maxRecDepth 100000 in
set_option maxHeartbeats 4000000 in
theorem lw_c12 {Inv : Nat → mm_M → Prop} (S : lw_S12 Inv) {p : Program} {l : Launch} {e : Env} {s : State} {m : MethodId} {below : List Frame} {meth : Method} {c : Code} {b L : Nat} {xs : Nat → Int32} {aT : Nat → ClassId} {D : va_G} {k n t : Nat} {u : Nat} {M : mm_M} (hu : u < 512) (C : ml_ok p s m meth c b L xs aT D) (hL : L ≤ 3072) (ht : t + 6 ≤ L) (hk : k ≤ 600000) (hn : n ≤ 7302250) (hG : mm_G M.2.2) (hI : Inv u M) (kk : ∀ M : mm_M, mm_G M.2.2 → Inv (u + 1) M → ml_W p l e s m below meth c b aT D 1043 [(0, .ref b), (1, .ref (s.heap.size + 0)), (2, .ref (s.heap.size + 164)), (3, .int (nI t))] [] mm_SH M k n) : ml_W p l e s m below meth c b aT D 552 [(0, .ref b), (1, .ref (s.heap.size + 0)), (2, .ref (s.heap.size + 164)), (3, .int (nI t))] [] mm_SH M k n := by
  refine ml_aload_n C (pc := 552) (j := 1) dL_law_552 rfl rfl ?_
  refine ml_aload_n C (pc := 553) (j := 0) dL_law_553 rfl rfl ?_
  refine ml_iload_n C (pc := 554) (j := 3) dL_law_554 rfl rfl ?_
  refine ml_iconst C (pc := 555) (x := 1) dL_law_555 rfl ?_
  refine ml_iadd C (pc := 556) dL_law_556 ?_
  refine ml_sld C (pc := 557) (lw_ix (q := 1) ht hL (by decide)) dL_law_557 ?_
  refine ml_aload_n C (pc := 558) (j := 0) dL_law_558 rfl rfl ?_
  refine ml_iload_n C (pc := 559) (j := 3) dL_law_559 rfl rfl ?_
  refine ml_iconst C (pc := 560) (x := 2) dL_law_560 rfl ?_
  refine ml_iadd C (pc := 561) dL_law_561 ?_
  refine ml_sld C (pc := 562) (lw_ix (q := 2) ht hL (by decide)) dL_law_562 ?_
  refine ml_aload_n C (pc := 563) (j := 0) dL_law_563 rfl rfl ?_
  refine ml_iload_n C (pc := 564) (j := 3) dL_law_564 rfl rfl ?_
  refine ml_iconst C (pc := 565) (x := 3) dL_law_565 rfl ?_
  refine ml_iadd C (pc := 566) dL_law_566 ?_
  refine ml_sld C (pc := 567) (lw_ix (q := 3) ht hL (by decide)) dL_law_567 ?_
  refine ml_callV C (pc := 568) (As := [.int (xs (nI t + 1).toNatClampNeg), .int (xs (nI t + 2).toNatClampNeg), .int (xs (nI t + 3).toNatClampNeg)]) (rest := []) (a := 0) dL_law_568 kL_67 rfl sh_0 (Nat.le_of_ble_eq_true rfl) (Nat.le_of_ble_eq_true rfl) hk hn (S u M (xs (nI t + 1).toNatClampNeg) (xs (nI t + 2).toNatClampNeg) (xs (nI t + 3).toNatClampNeg) hu hG hI) (fun r sh2 M2 hq => ?_)
  obtain ⟨z1, rfl, rfl, hG1, h1⟩ := hq
  refine ml_aload_n C (pc := 571) (j := 2) dL_law_571 rfl rfl ?_
  refine ml_aload_n C (pc := 572) (j := 0) dL_law_572 rfl rfl ?_
  refine ml_iload_n C (pc := 573) (j := 3) dL_law_573 rfl rfl ?_
  refine ml_iconst C (pc := 574) (x := 1) dL_law_574 rfl ?_
  refine ml_iadd C (pc := 575) dL_law_575 ?_
  refine ml_sld C (pc := 576) (lw_ix (q := 1) ht hL (by decide)) dL_law_576 ?_
  refine ml_aload_n C (pc := 577) (j := 0) dL_law_577 rfl rfl ?_
  refine ml_iload_n C (pc := 578) (j := 3) dL_law_578 rfl rfl ?_
  refine ml_iconst C (pc := 579) (x := 2) dL_law_579 rfl ?_
  refine ml_iadd C (pc := 580) dL_law_580 ?_
  refine ml_sld C (pc := 581) (lw_ix (q := 2) ht hL (by decide)) dL_law_581 ?_
  refine ml_aload_n C (pc := 582) (j := 0) dL_law_582 rfl rfl ?_
  refine ml_iload_n C (pc := 583) (j := 3) dL_law_583 rfl rfl ?_
  refine ml_iconst C (pc := 584) (x := 3) dL_law_584 rfl ?_
  refine ml_iadd C (pc := 585) dL_law_585 ?_
  refine ml_sld C (pc := 586) (lw_ix (q := 3) ht hL (by decide)) dL_law_586 ?_
  refine ml_callV C (pc := 587) (As := [.int (xs (nI t + 1).toNatClampNeg), .int (xs (nI t + 2).toNatClampNeg), .int (xs (nI t + 3).toNatClampNeg)]) (rest := [.int z1]) (a := 164) dL_law_587 kL_70 rfl sh_164 (Nat.le_of_ble_eq_true rfl) (Nat.le_of_ble_eq_true rfl) hk hn h1 (fun r sh2 M3 hq => ?_)
  obtain ⟨z2, rfl, rfl, hG2, he, hI2⟩ := hq
  refine ml_icmp_eq C (pc := 590) (tgt := 1043) dL_law_590 (by decide) (fun _ => kk M3 hG2 hI2) (fun h => absurd he h)
set_option maxRecDepth 100000 in
set_option maxHeartbeats 4000000 in
theorem lw_c13 {Inv : Nat → mm_M → Prop} (S : lw_S13 Inv) {p : Program} {l : Launch} {e : Env} {s : State} {m : MethodId} {below : List Frame} {meth : Method} {c : Code} {b L : Nat} {xs : Nat → Int32} {aT : Nat → ClassId} {D : va_G} {k n t : Nat} {u : Nat} {M : mm_M} (hu : u < 512) (C : ml_ok p s m meth c b L xs aT D) (hL : L ≤ 3072) (ht : t + 6 ≤ L) (hk : k ≤ 600000) (hn : n ≤ 7302250) (hG : mm_G M.2.2) (hI : Inv u M) (kk : ∀ M : mm_M, mm_G M.2.2 → Inv (u + 1) M → ml_W p l e s m below meth c b aT D 1043 [(0, .ref b), (1, .ref (s.heap.size + 0)), (2, .ref (s.heap.size + 164)), (3, .int (nI t))] [] mm_SH M k n) : ml_W p l e s m below meth c b aT D 595 [(0, .ref b), (1, .ref (s.heap.size + 0)), (2, .ref (s.heap.size + 164)), (3, .int (nI t))] [] mm_SH M k n := by
  refine ml_aload_n C (pc := 595) (j := 1) dL_law_595 rfl rfl ?_
  refine ml_aload_n C (pc := 596) (j := 0) dL_law_596 rfl rfl ?_
  refine ml_iload_n C (pc := 597) (j := 3) dL_law_597 rfl rfl ?_
  refine ml_iconst C (pc := 598) (x := 1) dL_law_598 rfl ?_
  refine ml_iadd C (pc := 599) dL_law_599 ?_
  refine ml_sld C (pc := 600) (lw_ix (q := 1) ht hL (by decide)) dL_law_600 ?_
  refine ml_callV C (pc := 601) (As := [.int (xs (nI t + 1).toNatClampNeg)]) (rest := []) (a := 0) dL_law_601 kL_71 rfl sh_0 (Nat.le_of_ble_eq_true rfl) (Nat.le_of_ble_eq_true rfl) hk hn (S u M (xs (nI t + 1).toNatClampNeg) hu hG hI) (fun r sh2 M2 hq => ?_)
  obtain ⟨z1, rfl, rfl, hG1, h1⟩ := hq
  refine ml_aload_n C (pc := 604) (j := 2) dL_law_604 rfl rfl ?_
  refine ml_aload_n C (pc := 605) (j := 0) dL_law_605 rfl rfl ?_
  refine ml_iload_n C (pc := 606) (j := 3) dL_law_606 rfl rfl ?_
  refine ml_iconst C (pc := 607) (x := 1) dL_law_607 rfl ?_
  refine ml_iadd C (pc := 608) dL_law_608 ?_
  refine ml_sld C (pc := 609) (lw_ix (q := 1) ht hL (by decide)) dL_law_609 ?_
  refine ml_callV C (pc := 610) (As := [.int (xs (nI t + 1).toNatClampNeg)]) (rest := [.int z1]) (a := 164) dL_law_610 kL_74 rfl sh_164 (Nat.le_of_ble_eq_true rfl) (Nat.le_of_ble_eq_true rfl) hk hn h1 (fun r sh2 M3 hq => ?_)
  obtain ⟨z2, rfl, rfl, hG2, he, hI2⟩ := hq
  refine ml_icmp_eq C (pc := 613) (tgt := 1043) dL_law_613 (by decide) (fun _ => kk M3 hG2 hI2) (fun h => absurd he h)
set_option maxRecDepth 100000 in
set_option maxHeartbeats 4000000 in
theorem lw_c14 {Inv : Nat → mm_M → Prop} (S : lw_S14 Inv) {p : Program} {l : Launch} {e : Env} {s : State} {m : MethodId} {below : List Frame} {meth : Method} {c : Code} {b L : Nat} {xs : Nat → Int32} {aT : Nat → ClassId} {D : va_G} {k n t : Nat} {u : Nat} {M : mm_M} (hu : u < 512) (C : ml_ok p s m meth c b L xs aT D) (hL : L ≤ 3072) (ht : t + 6 ≤ L) (hk : k ≤ 600000) (hn : n ≤ 7302250) (hG : mm_G M.2.2) (hI : Inv u M) (kk : ∀ M : mm_M, mm_G M.2.2 → Inv (u + 1) M → ml_W p l e s m below meth c b aT D 1043 [(0, .ref b), (1, .ref (s.heap.size + 0)), (2, .ref (s.heap.size + 164)), (3, .int (nI t))] [] mm_SH M k n) : ml_W p l e s m below meth c b aT D 618 [(0, .ref b), (1, .ref (s.heap.size + 0)), (2, .ref (s.heap.size + 164)), (3, .int (nI t))] [] mm_SH M k n := by
  refine ml_aload_n C (pc := 618) (j := 1) dL_law_618 rfl rfl ?_
  refine ml_aload_n C (pc := 619) (j := 0) dL_law_619 rfl rfl ?_
  refine ml_iload_n C (pc := 620) (j := 3) dL_law_620 rfl rfl ?_
  refine ml_iconst C (pc := 621) (x := 1) dL_law_621 rfl ?_
  refine ml_iadd C (pc := 622) dL_law_622 ?_
  refine ml_sld C (pc := 623) (lw_ix (q := 1) ht hL (by decide)) dL_law_623 ?_
  refine ml_callV C (pc := 624) (As := [.int (xs (nI t + 1).toNatClampNeg)]) (rest := []) (a := 0) dL_law_624 kL_75 rfl sh_0 (Nat.le_of_ble_eq_true rfl) (Nat.le_of_ble_eq_true rfl) hk hn (S u M (xs (nI t + 1).toNatClampNeg) hu hG hI) (fun r sh2 M2 hq => ?_)
  obtain ⟨z1, rfl, rfl, hG1, h1⟩ := hq
  refine ml_aload_n C (pc := 627) (j := 2) dL_law_627 rfl rfl ?_
  refine ml_aload_n C (pc := 628) (j := 0) dL_law_628 rfl rfl ?_
  refine ml_iload_n C (pc := 629) (j := 3) dL_law_629 rfl rfl ?_
  refine ml_iconst C (pc := 630) (x := 1) dL_law_630 rfl ?_
  refine ml_iadd C (pc := 631) dL_law_631 ?_
  refine ml_sld C (pc := 632) (lw_ix (q := 1) ht hL (by decide)) dL_law_632 ?_
  refine ml_callV C (pc := 633) (As := [.int (xs (nI t + 1).toNatClampNeg)]) (rest := [.int z1]) (a := 164) dL_law_633 kL_78 rfl sh_164 (Nat.le_of_ble_eq_true rfl) (Nat.le_of_ble_eq_true rfl) hk hn h1 (fun r sh2 M3 hq => ?_)
  obtain ⟨z2, rfl, rfl, hG2, he, hI2⟩ := hq
  refine ml_icmp_eq C (pc := 636) (tgt := 1043) dL_law_636 (by decide) (fun _ => kk M3 hG2 hI2) (fun h => absurd he h)
set_option maxRecDepth 100000 in
set_option maxHeartbeats 4000000 in
theorem lw_c15 {Inv : Nat → mm_M → Prop} (S : lw_S15 Inv) {p : Program} {l : Launch} {e : Env} {s : State} {m : MethodId} {below : List Frame} {meth : Method} {c : Code} {b L : Nat} {xs : Nat → Int32} {aT : Nat → ClassId} {D : va_G} {k n t : Nat} {u : Nat} {M : mm_M} (hu : u < 512) (C : ml_ok p s m meth c b L xs aT D) (hL : L ≤ 3072) (ht : t + 6 ≤ L) (hk : k ≤ 600000) (hn : n ≤ 7302250) (hG : mm_G M.2.2) (hI : Inv u M) (kk : ∀ M : mm_M, mm_G M.2.2 → Inv (u + 1) M → ml_W p l e s m below meth c b aT D 1043 [(0, .ref b), (1, .ref (s.heap.size + 0)), (2, .ref (s.heap.size + 164)), (3, .int (nI t))] [] mm_SH M k n) : ml_W p l e s m below meth c b aT D 641 [(0, .ref b), (1, .ref (s.heap.size + 0)), (2, .ref (s.heap.size + 164)), (3, .int (nI t))] [] mm_SH M k n := by
  refine ml_aload_n C (pc := 641) (j := 1) dL_law_641 rfl rfl ?_
  refine ml_aload_n C (pc := 642) (j := 0) dL_law_642 rfl rfl ?_
  refine ml_iload_n C (pc := 643) (j := 3) dL_law_643 rfl rfl ?_
  refine ml_iconst C (pc := 644) (x := 1) dL_law_644 rfl ?_
  refine ml_iadd C (pc := 645) dL_law_645 ?_
  refine ml_sld C (pc := 646) (lw_ix (q := 1) ht hL (by decide)) dL_law_646 ?_
  refine ml_callV C (pc := 647) (As := [.int (xs (nI t + 1).toNatClampNeg)]) (rest := []) (a := 0) dL_law_647 kL_79 rfl sh_0 (Nat.le_of_ble_eq_true rfl) (Nat.le_of_ble_eq_true rfl) hk hn (S u M (xs (nI t + 1).toNatClampNeg) hu hG hI) (fun r sh2 M2 hq => ?_)
  obtain ⟨z1, rfl, rfl, hG1, h1⟩ := hq
  refine ml_aload_n C (pc := 650) (j := 2) dL_law_650 rfl rfl ?_
  refine ml_aload_n C (pc := 651) (j := 0) dL_law_651 rfl rfl ?_
  refine ml_iload_n C (pc := 652) (j := 3) dL_law_652 rfl rfl ?_
  refine ml_iconst C (pc := 653) (x := 1) dL_law_653 rfl ?_
  refine ml_iadd C (pc := 654) dL_law_654 ?_
  refine ml_sld C (pc := 655) (lw_ix (q := 1) ht hL (by decide)) dL_law_655 ?_
  refine ml_callV C (pc := 656) (As := [.int (xs (nI t + 1).toNatClampNeg)]) (rest := [.int z1]) (a := 164) dL_law_656 kL_82 rfl sh_164 (Nat.le_of_ble_eq_true rfl) (Nat.le_of_ble_eq_true rfl) hk hn h1 (fun r sh2 M3 hq => ?_)
  obtain ⟨z2, rfl, rfl, hG2, he, hI2⟩ := hq
  refine ml_icmp_eq C (pc := 659) (tgt := 1043) dL_law_659 (by decide) (fun _ => kk M3 hG2 hI2) (fun h => absurd he h)
set_option maxRecDepth 100000 in
set_option maxHeartbeats 4000000 in
theorem lw_c16 {Inv : Nat → mm_M → Prop} (S : lw_S16 Inv) {p : Program} {l : Launch} {e : Env} {s : State} {m : MethodId} {below : List Frame} {meth : Method} {c : Code} {b L : Nat} {xs : Nat → Int32} {aT : Nat → ClassId} {D : va_G} {k n t : Nat} {u : Nat} {M : mm_M} (hu : u < 512) (C : ml_ok p s m meth c b L xs aT D) (hL : L ≤ 3072) (ht : t + 6 ≤ L) (hk : k ≤ 600000) (hn : n ≤ 7302250) (hG : mm_G M.2.2) (hI : Inv u M) (kk : ∀ M : mm_M, mm_G M.2.2 → Inv (u + 1) M → ml_W p l e s m below meth c b aT D 1043 [(0, .ref b), (1, .ref (s.heap.size + 0)), (2, .ref (s.heap.size + 164)), (3, .int (nI t))] [] mm_SH M k n) : ml_W p l e s m below meth c b aT D 664 [(0, .ref b), (1, .ref (s.heap.size + 0)), (2, .ref (s.heap.size + 164)), (3, .int (nI t))] [] mm_SH M k n := by
  refine ml_aload_n C (pc := 664) (j := 1) dL_law_664 rfl rfl ?_
  refine ml_aload_n C (pc := 665) (j := 0) dL_law_665 rfl rfl ?_
  refine ml_iload_n C (pc := 666) (j := 3) dL_law_666 rfl rfl ?_
  refine ml_iconst C (pc := 667) (x := 1) dL_law_667 rfl ?_
  refine ml_iadd C (pc := 668) dL_law_668 ?_
  refine ml_sld C (pc := 669) (lw_ix (q := 1) ht hL (by decide)) dL_law_669 ?_
  refine ml_aload_n C (pc := 670) (j := 0) dL_law_670 rfl rfl ?_
  refine ml_iload_n C (pc := 671) (j := 3) dL_law_671 rfl rfl ?_
  refine ml_iconst C (pc := 672) (x := 2) dL_law_672 rfl ?_
  refine ml_iadd C (pc := 673) dL_law_673 ?_
  refine ml_sld C (pc := 674) (lw_ix (q := 2) ht hL (by decide)) dL_law_674 ?_
  refine ml_callV C (pc := 675) (As := [.int (xs (nI t + 1).toNatClampNeg), .int (xs (nI t + 2).toNatClampNeg)]) (rest := []) (a := 0) dL_law_675 kL_83 rfl sh_0 (Nat.le_of_ble_eq_true rfl) (Nat.le_of_ble_eq_true rfl) hk hn (S u M (xs (nI t + 1).toNatClampNeg) (xs (nI t + 2).toNatClampNeg) hu hG hI) (fun r sh2 M2 hq => ?_)
  obtain ⟨z1, rfl, rfl, hG1, h1⟩ := hq
  refine ml_aload_n C (pc := 678) (j := 2) dL_law_678 rfl rfl ?_
  refine ml_aload_n C (pc := 679) (j := 0) dL_law_679 rfl rfl ?_
  refine ml_iload_n C (pc := 680) (j := 3) dL_law_680 rfl rfl ?_
  refine ml_iconst C (pc := 681) (x := 1) dL_law_681 rfl ?_
  refine ml_iadd C (pc := 682) dL_law_682 ?_
  refine ml_sld C (pc := 683) (lw_ix (q := 1) ht hL (by decide)) dL_law_683 ?_
  refine ml_aload_n C (pc := 684) (j := 0) dL_law_684 rfl rfl ?_
  refine ml_iload_n C (pc := 685) (j := 3) dL_law_685 rfl rfl ?_
  refine ml_iconst C (pc := 686) (x := 2) dL_law_686 rfl ?_
  refine ml_iadd C (pc := 687) dL_law_687 ?_
  refine ml_sld C (pc := 688) (lw_ix (q := 2) ht hL (by decide)) dL_law_688 ?_
  refine ml_callV C (pc := 689) (As := [.int (xs (nI t + 1).toNatClampNeg), .int (xs (nI t + 2).toNatClampNeg)]) (rest := [.int z1]) (a := 164) dL_law_689 kL_86 rfl sh_164 (Nat.le_of_ble_eq_true rfl) (Nat.le_of_ble_eq_true rfl) hk hn h1 (fun r sh2 M3 hq => ?_)
  obtain ⟨z2, rfl, rfl, hG2, he, hI2⟩ := hq
  refine ml_icmp_eq C (pc := 692) (tgt := 1043) dL_law_692 (by decide) (fun _ => kk M3 hG2 hI2) (fun h => absurd he h)
set_option maxRecDepth 100000 in
set_option maxHeartbeats 4000000 in
theorem lw_c17 {Inv : Nat → mm_M → Prop} (S : lw_S17 Inv) {p : Program} {l : Launch} {e : Env} {s : State} {m : MethodId} {below : List Frame} {meth : Method} {c : Code} {b L : Nat} {xs : Nat → Int32} {aT : Nat → ClassId} {D : va_G} {k n t : Nat} {u : Nat} {M : mm_M} (hu : u < 512) (C : ml_ok p s m meth c b L xs aT D) (hL : L ≤ 3072) (ht : t + 6 ≤ L) (hk : k ≤ 600000) (hn : n ≤ 7302250) (hG : mm_G M.2.2) (hI : Inv u M) (kk : ∀ M : mm_M, mm_G M.2.2 → Inv (u + 1) M → ml_W p l e s m below meth c b aT D 1043 [(0, .ref b), (1, .ref (s.heap.size + 0)), (2, .ref (s.heap.size + 164)), (3, .int (nI t))] [] mm_SH M k n) : ml_W p l e s m below meth c b aT D 697 [(0, .ref b), (1, .ref (s.heap.size + 0)), (2, .ref (s.heap.size + 164)), (3, .int (nI t))] [] mm_SH M k n := by
  refine ml_aload_n C (pc := 697) (j := 1) dL_law_697 rfl rfl ?_
  refine ml_aload_n C (pc := 698) (j := 0) dL_law_698 rfl rfl ?_
  refine ml_iload_n C (pc := 699) (j := 3) dL_law_699 rfl rfl ?_
  refine ml_iconst C (pc := 700) (x := 1) dL_law_700 rfl ?_
  refine ml_iadd C (pc := 701) dL_law_701 ?_
  refine ml_sld C (pc := 702) (lw_ix (q := 1) ht hL (by decide)) dL_law_702 ?_
  refine ml_callV C (pc := 703) (As := [.int (xs (nI t + 1).toNatClampNeg)]) (rest := []) (a := 0) dL_law_703 kL_87 rfl sh_0 (Nat.le_of_ble_eq_true rfl) (Nat.le_of_ble_eq_true rfl) hk hn (S u M (xs (nI t + 1).toNatClampNeg) hu hG hI) (fun r sh2 M2 hq => ?_)
  obtain ⟨z1, rfl, rfl, hG1, h1⟩ := hq
  refine ml_aload_n C (pc := 706) (j := 2) dL_law_706 rfl rfl ?_
  refine ml_aload_n C (pc := 707) (j := 0) dL_law_707 rfl rfl ?_
  refine ml_iload_n C (pc := 708) (j := 3) dL_law_708 rfl rfl ?_
  refine ml_iconst C (pc := 709) (x := 1) dL_law_709 rfl ?_
  refine ml_iadd C (pc := 710) dL_law_710 ?_
  refine ml_sld C (pc := 711) (lw_ix (q := 1) ht hL (by decide)) dL_law_711 ?_
  refine ml_callV C (pc := 712) (As := [.int (xs (nI t + 1).toNatClampNeg)]) (rest := [.int z1]) (a := 164) dL_law_712 kL_90 rfl sh_164 (Nat.le_of_ble_eq_true rfl) (Nat.le_of_ble_eq_true rfl) hk hn h1 (fun r sh2 M3 hq => ?_)
  obtain ⟨z2, rfl, rfl, hG2, he, hI2⟩ := hq
  refine ml_icmp_eq C (pc := 715) (tgt := 1043) dL_law_715 (by decide) (fun _ => kk M3 hG2 hI2) (fun h => absurd he h)
set_option maxRecDepth 100000 in
set_option maxHeartbeats 4000000 in
theorem lw_c18 {Inv : Nat → mm_M → Prop} (S : lw_S18 Inv) {p : Program} {l : Launch} {e : Env} {s : State} {m : MethodId} {below : List Frame} {meth : Method} {c : Code} {b L : Nat} {xs : Nat → Int32} {aT : Nat → ClassId} {D : va_G} {k n t : Nat} {u : Nat} {M : mm_M} (hu : u < 512) (C : ml_ok p s m meth c b L xs aT D) (hL : L ≤ 3072) (ht : t + 6 ≤ L) (hk : k ≤ 600000) (hn : n ≤ 7302250) (hG : mm_G M.2.2) (hI : Inv u M) (kk : ∀ M : mm_M, mm_G M.2.2 → Inv (u + 1) M → ml_W p l e s m below meth c b aT D 1043 [(0, .ref b), (1, .ref (s.heap.size + 0)), (2, .ref (s.heap.size + 164)), (3, .int (nI t))] [] mm_SH M k n) : ml_W p l e s m below meth c b aT D 720 [(0, .ref b), (1, .ref (s.heap.size + 0)), (2, .ref (s.heap.size + 164)), (3, .int (nI t))] [] mm_SH M k n := by
  refine ml_aload_n C (pc := 720) (j := 1) dL_law_720 rfl rfl ?_
  refine ml_callV C (pc := 721) (As := []) (rest := []) (a := 0) dL_law_721 kL_91 rfl sh_0 (Nat.le_of_ble_eq_true rfl) (Nat.le_of_ble_eq_true rfl) hk hn (S u M hu hG hI) (fun r sh2 M2 hq => ?_)
  obtain ⟨z1, rfl, rfl, hG1, h1⟩ := hq
  refine ml_aload_n C (pc := 724) (j := 2) dL_law_724 rfl rfl ?_
  refine ml_callV C (pc := 725) (As := []) (rest := [.int z1]) (a := 164) dL_law_725 kL_94 rfl sh_164 (Nat.le_of_ble_eq_true rfl) (Nat.le_of_ble_eq_true rfl) hk hn h1 (fun r sh2 M3 hq => ?_)
  obtain ⟨z2, rfl, rfl, hG2, he, hI2⟩ := hq
  refine ml_icmp_eq C (pc := 728) (tgt := 1043) dL_law_728 (by decide) (fun _ => kk M3 hG2 hI2) (fun h => absurd he h)
set_option maxRecDepth 100000 in
set_option maxHeartbeats 4000000 in
theorem lw_c19 {Inv : Nat → mm_M → Prop} (S : lw_S19 Inv) {p : Program} {l : Launch} {e : Env} {s : State} {m : MethodId} {below : List Frame} {meth : Method} {c : Code} {b L : Nat} {xs : Nat → Int32} {aT : Nat → ClassId} {D : va_G} {k n t : Nat} {u : Nat} {M : mm_M} (hu : u < 512) (C : ml_ok p s m meth c b L xs aT D) (hL : L ≤ 3072) (ht : t + 6 ≤ L) (hk : k ≤ 600000) (hn : n ≤ 7302250) (hG : mm_G M.2.2) (hI : Inv u M) (kk : ∀ M : mm_M, mm_G M.2.2 → Inv (u + 1) M → ml_W p l e s m below meth c b aT D 1043 [(0, .ref b), (1, .ref (s.heap.size + 0)), (2, .ref (s.heap.size + 164)), (3, .int (nI t))] [] mm_SH M k n) : ml_W p l e s m below meth c b aT D 733 [(0, .ref b), (1, .ref (s.heap.size + 0)), (2, .ref (s.heap.size + 164)), (3, .int (nI t))] [] mm_SH M k n := by
  refine ml_aload_n C (pc := 733) (j := 1) dL_law_733 rfl rfl ?_
  refine ml_aload_n C (pc := 734) (j := 0) dL_law_734 rfl rfl ?_
  refine ml_iload_n C (pc := 735) (j := 3) dL_law_735 rfl rfl ?_
  refine ml_iconst C (pc := 736) (x := 1) dL_law_736 rfl ?_
  refine ml_iadd C (pc := 737) dL_law_737 ?_
  refine ml_sld C (pc := 738) (lw_ix (q := 1) ht hL (by decide)) dL_law_738 ?_
  refine ml_aload_n C (pc := 739) (j := 0) dL_law_739 rfl rfl ?_
  refine ml_iload_n C (pc := 740) (j := 3) dL_law_740 rfl rfl ?_
  refine ml_iconst C (pc := 741) (x := 2) dL_law_741 rfl ?_
  refine ml_iadd C (pc := 742) dL_law_742 ?_
  refine ml_sld C (pc := 743) (lw_ix (q := 2) ht hL (by decide)) dL_law_743 ?_
  refine ml_callV C (pc := 744) (As := [.int (xs (nI t + 1).toNatClampNeg), .int (xs (nI t + 2).toNatClampNeg)]) (rest := []) (a := 0) dL_law_744 kL_95 rfl sh_0 (Nat.le_of_ble_eq_true rfl) (Nat.le_of_ble_eq_true rfl) hk hn (S u M (xs (nI t + 1).toNatClampNeg) (xs (nI t + 2).toNatClampNeg) hu hG hI) (fun r sh2 M2 hq => ?_)
  obtain ⟨z1, rfl, rfl, hG1, h1⟩ := hq
  refine ml_aload_n C (pc := 747) (j := 2) dL_law_747 rfl rfl ?_
  refine ml_aload_n C (pc := 748) (j := 0) dL_law_748 rfl rfl ?_
  refine ml_iload_n C (pc := 749) (j := 3) dL_law_749 rfl rfl ?_
  refine ml_iconst C (pc := 750) (x := 1) dL_law_750 rfl ?_
  refine ml_iadd C (pc := 751) dL_law_751 ?_
  refine ml_sld C (pc := 752) (lw_ix (q := 1) ht hL (by decide)) dL_law_752 ?_
  refine ml_aload_n C (pc := 753) (j := 0) dL_law_753 rfl rfl ?_
  refine ml_iload_n C (pc := 754) (j := 3) dL_law_754 rfl rfl ?_
  refine ml_iconst C (pc := 755) (x := 2) dL_law_755 rfl ?_
  refine ml_iadd C (pc := 756) dL_law_756 ?_
  refine ml_sld C (pc := 757) (lw_ix (q := 2) ht hL (by decide)) dL_law_757 ?_
  refine ml_callV C (pc := 758) (As := [.int (xs (nI t + 1).toNatClampNeg), .int (xs (nI t + 2).toNatClampNeg)]) (rest := [.int z1]) (a := 164) dL_law_758 kL_98 rfl sh_164 (Nat.le_of_ble_eq_true rfl) (Nat.le_of_ble_eq_true rfl) hk hn h1 (fun r sh2 M3 hq => ?_)
  obtain ⟨z2, rfl, rfl, hG2, he, hI2⟩ := hq
  refine ml_icmp_eq C (pc := 761) (tgt := 1043) dL_law_761 (by decide) (fun _ => kk M3 hG2 hI2) (fun h => absurd he h)
set_option maxRecDepth 100000 in
set_option maxHeartbeats 4000000 in
theorem lw_c20 {Inv : Nat → mm_M → Prop} (S : lw_S20 Inv) {p : Program} {l : Launch} {e : Env} {s : State} {m : MethodId} {below : List Frame} {meth : Method} {c : Code} {b L : Nat} {xs : Nat → Int32} {aT : Nat → ClassId} {D : va_G} {k n t : Nat} {u : Nat} {M : mm_M} (hu : u < 512) (C : ml_ok p s m meth c b L xs aT D) (hL : L ≤ 3072) (ht : t + 6 ≤ L) (hk : k ≤ 600000) (hn : n ≤ 7302250) (hG : mm_G M.2.2) (hI : Inv u M) (kk : ∀ M : mm_M, mm_G M.2.2 → Inv (u + 1) M → ml_W p l e s m below meth c b aT D 1043 [(0, .ref b), (1, .ref (s.heap.size + 0)), (2, .ref (s.heap.size + 164)), (3, .int (nI t))] [] mm_SH M k n) : ml_W p l e s m below meth c b aT D 766 [(0, .ref b), (1, .ref (s.heap.size + 0)), (2, .ref (s.heap.size + 164)), (3, .int (nI t))] [] mm_SH M k n := by
  refine ml_aload_n C (pc := 766) (j := 1) dL_law_766 rfl rfl ?_
  refine ml_aload_n C (pc := 767) (j := 0) dL_law_767 rfl rfl ?_
  refine ml_iload_n C (pc := 768) (j := 3) dL_law_768 rfl rfl ?_
  refine ml_iconst C (pc := 769) (x := 1) dL_law_769 rfl ?_
  refine ml_iadd C (pc := 770) dL_law_770 ?_
  refine ml_sld C (pc := 771) (lw_ix (q := 1) ht hL (by decide)) dL_law_771 ?_
  refine ml_aload_n C (pc := 772) (j := 0) dL_law_772 rfl rfl ?_
  refine ml_iload_n C (pc := 773) (j := 3) dL_law_773 rfl rfl ?_
  refine ml_iconst C (pc := 774) (x := 2) dL_law_774 rfl ?_
  refine ml_iadd C (pc := 775) dL_law_775 ?_
  refine ml_sld C (pc := 776) (lw_ix (q := 2) ht hL (by decide)) dL_law_776 ?_
  refine ml_callV C (pc := 777) (As := [.int (xs (nI t + 1).toNatClampNeg), .int (xs (nI t + 2).toNatClampNeg)]) (rest := []) (a := 0) dL_law_777 kL_99 rfl sh_0 (Nat.le_of_ble_eq_true rfl) (Nat.le_of_ble_eq_true rfl) hk hn (S u M (xs (nI t + 1).toNatClampNeg) (xs (nI t + 2).toNatClampNeg) hu hG hI) (fun r sh2 M2 hq => ?_)
  obtain ⟨z1, rfl, rfl, hG1, h1⟩ := hq
  refine ml_aload_n C (pc := 780) (j := 2) dL_law_780 rfl rfl ?_
  refine ml_aload_n C (pc := 781) (j := 0) dL_law_781 rfl rfl ?_
  refine ml_iload_n C (pc := 782) (j := 3) dL_law_782 rfl rfl ?_
  refine ml_iconst C (pc := 783) (x := 1) dL_law_783 rfl ?_
  refine ml_iadd C (pc := 784) dL_law_784 ?_
  refine ml_sld C (pc := 785) (lw_ix (q := 1) ht hL (by decide)) dL_law_785 ?_
  refine ml_aload_n C (pc := 786) (j := 0) dL_law_786 rfl rfl ?_
  refine ml_iload_n C (pc := 787) (j := 3) dL_law_787 rfl rfl ?_
  refine ml_iconst C (pc := 788) (x := 2) dL_law_788 rfl ?_
  refine ml_iadd C (pc := 789) dL_law_789 ?_
  refine ml_sld C (pc := 790) (lw_ix (q := 2) ht hL (by decide)) dL_law_790 ?_
  refine ml_callV C (pc := 791) (As := [.int (xs (nI t + 1).toNatClampNeg), .int (xs (nI t + 2).toNatClampNeg)]) (rest := [.int z1]) (a := 164) dL_law_791 kL_102 rfl sh_164 (Nat.le_of_ble_eq_true rfl) (Nat.le_of_ble_eq_true rfl) hk hn h1 (fun r sh2 M3 hq => ?_)
  obtain ⟨z2, rfl, rfl, hG2, he, hI2⟩ := hq
  refine ml_icmp_eq C (pc := 794) (tgt := 1043) dL_law_794 (by decide) (fun _ => kk M3 hG2 hI2) (fun h => absurd he h)
set_option maxRecDepth 100000 in
set_option maxHeartbeats 4000000 in
theorem lw_c21 {Inv : Nat → mm_M → Prop} (S : lw_S21 Inv) {p : Program} {l : Launch} {e : Env} {s : State} {m : MethodId} {below : List Frame} {meth : Method} {c : Code} {b L : Nat} {xs : Nat → Int32} {aT : Nat → ClassId} {D : va_G} {k n t : Nat} {u : Nat} {M : mm_M} (hu : u < 512) (C : ml_ok p s m meth c b L xs aT D) (hL : L ≤ 3072) (ht : t + 6 ≤ L) (hk : k ≤ 600000) (hn : n ≤ 7302250) (hG : mm_G M.2.2) (hI : Inv u M) (kk : ∀ M : mm_M, mm_G M.2.2 → Inv (u + 1) M → ml_W p l e s m below meth c b aT D 1043 [(0, .ref b), (1, .ref (s.heap.size + 0)), (2, .ref (s.heap.size + 164)), (3, .int (nI t))] [] mm_SH M k n) : ml_W p l e s m below meth c b aT D 799 [(0, .ref b), (1, .ref (s.heap.size + 0)), (2, .ref (s.heap.size + 164)), (3, .int (nI t))] [] mm_SH M k n := by
  refine ml_aload_n C (pc := 799) (j := 1) dL_law_799 rfl rfl ?_
  refine ml_aload_n C (pc := 800) (j := 0) dL_law_800 rfl rfl ?_
  refine ml_iload_n C (pc := 801) (j := 3) dL_law_801 rfl rfl ?_
  refine ml_iconst C (pc := 802) (x := 1) dL_law_802 rfl ?_
  refine ml_iadd C (pc := 803) dL_law_803 ?_
  refine ml_sld C (pc := 804) (lw_ix (q := 1) ht hL (by decide)) dL_law_804 ?_
  refine ml_aload_n C (pc := 805) (j := 0) dL_law_805 rfl rfl ?_
  refine ml_iload_n C (pc := 806) (j := 3) dL_law_806 rfl rfl ?_
  refine ml_iconst C (pc := 807) (x := 2) dL_law_807 rfl ?_
  refine ml_iadd C (pc := 808) dL_law_808 ?_
  refine ml_sld C (pc := 809) (lw_ix (q := 2) ht hL (by decide)) dL_law_809 ?_
  refine ml_aload_n C (pc := 810) (j := 0) dL_law_810 rfl rfl ?_
  refine ml_iload_n C (pc := 811) (j := 3) dL_law_811 rfl rfl ?_
  refine ml_iconst C (pc := 812) (x := 3) dL_law_812 rfl ?_
  refine ml_iadd C (pc := 813) dL_law_813 ?_
  refine ml_sld C (pc := 814) (lw_ix (q := 3) ht hL (by decide)) dL_law_814 ?_
  refine ml_callV C (pc := 815) (As := [.int (xs (nI t + 1).toNatClampNeg), .int (xs (nI t + 2).toNatClampNeg), .int (xs (nI t + 3).toNatClampNeg)]) (rest := []) (a := 0) dL_law_815 kL_103 rfl sh_0 (Nat.le_of_ble_eq_true rfl) (Nat.le_of_ble_eq_true rfl) hk hn (S u M (xs (nI t + 1).toNatClampNeg) (xs (nI t + 2).toNatClampNeg) (xs (nI t + 3).toNatClampNeg) hu hG hI) (fun r sh2 M2 hq => ?_)
  obtain ⟨z1, rfl, rfl, hG1, h1⟩ := hq
  refine ml_aload_n C (pc := 818) (j := 2) dL_law_818 rfl rfl ?_
  refine ml_aload_n C (pc := 819) (j := 0) dL_law_819 rfl rfl ?_
  refine ml_iload_n C (pc := 820) (j := 3) dL_law_820 rfl rfl ?_
  refine ml_iconst C (pc := 821) (x := 1) dL_law_821 rfl ?_
  refine ml_iadd C (pc := 822) dL_law_822 ?_
  refine ml_sld C (pc := 823) (lw_ix (q := 1) ht hL (by decide)) dL_law_823 ?_
  refine ml_aload_n C (pc := 824) (j := 0) dL_law_824 rfl rfl ?_
  refine ml_iload_n C (pc := 825) (j := 3) dL_law_825 rfl rfl ?_
  refine ml_iconst C (pc := 826) (x := 2) dL_law_826 rfl ?_
  refine ml_iadd C (pc := 827) dL_law_827 ?_
  refine ml_sld C (pc := 828) (lw_ix (q := 2) ht hL (by decide)) dL_law_828 ?_
  refine ml_aload_n C (pc := 829) (j := 0) dL_law_829 rfl rfl ?_
  refine ml_iload_n C (pc := 830) (j := 3) dL_law_830 rfl rfl ?_
  refine ml_iconst C (pc := 831) (x := 3) dL_law_831 rfl ?_
  refine ml_iadd C (pc := 832) dL_law_832 ?_
  refine ml_sld C (pc := 833) (lw_ix (q := 3) ht hL (by decide)) dL_law_833 ?_
  refine ml_callV C (pc := 834) (As := [.int (xs (nI t + 1).toNatClampNeg), .int (xs (nI t + 2).toNatClampNeg), .int (xs (nI t + 3).toNatClampNeg)]) (rest := [.int z1]) (a := 164) dL_law_834 kL_107 rfl sh_164 (Nat.le_of_ble_eq_true rfl) (Nat.le_of_ble_eq_true rfl) hk hn h1 (fun r sh2 M3 hq => ?_)
  obtain ⟨z2, rfl, rfl, hG2, he, hI2⟩ := hq
  refine ml_icmp_eq C (pc := 837) (tgt := 1043) dL_law_837 (by decide) (fun _ => kk M3 hG2 hI2) (fun h => absurd he h)
set_option maxRecDepth 100000 in
set_option maxHeartbeats 4000000 in
theorem lw_c22 {Inv : Nat → mm_M → Prop} (S : lw_S22 Inv) {p : Program} {l : Launch} {e : Env} {s : State} {m : MethodId} {below : List Frame} {meth : Method} {c : Code} {b L : Nat} {xs : Nat → Int32} {aT : Nat → ClassId} {D : va_G} {k n t : Nat} {u : Nat} {M : mm_M} (hu : u < 512) (C : ml_ok p s m meth c b L xs aT D) (hL : L ≤ 3072) (ht : t + 6 ≤ L) (hk : k ≤ 600000) (hn : n ≤ 7302250) (hG : mm_G M.2.2) (hI : Inv u M) (kk : ∀ M : mm_M, mm_G M.2.2 → Inv (u + 1) M → ml_W p l e s m below meth c b aT D 1043 [(0, .ref b), (1, .ref (s.heap.size + 0)), (2, .ref (s.heap.size + 164)), (3, .int (nI t))] [] mm_SH M k n) : ml_W p l e s m below meth c b aT D 842 [(0, .ref b), (1, .ref (s.heap.size + 0)), (2, .ref (s.heap.size + 164)), (3, .int (nI t))] [] mm_SH M k n := by
  refine ml_aload_n C (pc := 842) (j := 1) dL_law_842 rfl rfl ?_
  refine ml_aload_n C (pc := 843) (j := 0) dL_law_843 rfl rfl ?_
  refine ml_iload_n C (pc := 844) (j := 3) dL_law_844 rfl rfl ?_
  refine ml_iconst C (pc := 845) (x := 1) dL_law_845 rfl ?_
  refine ml_iadd C (pc := 846) dL_law_846 ?_
  refine ml_sld C (pc := 847) (lw_ix (q := 1) ht hL (by decide)) dL_law_847 ?_
  refine ml_aload_n C (pc := 848) (j := 0) dL_law_848 rfl rfl ?_
  refine ml_iload_n C (pc := 849) (j := 3) dL_law_849 rfl rfl ?_
  refine ml_iconst C (pc := 850) (x := 2) dL_law_850 rfl ?_
  refine ml_iadd C (pc := 851) dL_law_851 ?_
  refine ml_sld C (pc := 852) (lw_ix (q := 2) ht hL (by decide)) dL_law_852 ?_
  refine ml_callV C (pc := 853) (As := [.int (xs (nI t + 1).toNatClampNeg), .int (xs (nI t + 2).toNatClampNeg)]) (rest := []) (a := 0) dL_law_853 kL_108 rfl sh_0 (Nat.le_of_ble_eq_true rfl) (Nat.le_of_ble_eq_true rfl) hk hn (S u M (xs (nI t + 1).toNatClampNeg) (xs (nI t + 2).toNatClampNeg) hu hG hI) (fun r sh2 M2 hq => ?_)
  obtain ⟨z1, rfl, rfl, hG1, h1⟩ := hq
  refine ml_aload_n C (pc := 856) (j := 2) dL_law_856 rfl rfl ?_
  refine ml_aload_n C (pc := 857) (j := 0) dL_law_857 rfl rfl ?_
  refine ml_iload_n C (pc := 858) (j := 3) dL_law_858 rfl rfl ?_
  refine ml_iconst C (pc := 859) (x := 1) dL_law_859 rfl ?_
  refine ml_iadd C (pc := 860) dL_law_860 ?_
  refine ml_sld C (pc := 861) (lw_ix (q := 1) ht hL (by decide)) dL_law_861 ?_
  refine ml_aload_n C (pc := 862) (j := 0) dL_law_862 rfl rfl ?_
  refine ml_iload_n C (pc := 863) (j := 3) dL_law_863 rfl rfl ?_
  refine ml_iconst C (pc := 864) (x := 2) dL_law_864 rfl ?_
  refine ml_iadd C (pc := 865) dL_law_865 ?_
  refine ml_sld C (pc := 866) (lw_ix (q := 2) ht hL (by decide)) dL_law_866 ?_
  refine ml_callV C (pc := 867) (As := [.int (xs (nI t + 1).toNatClampNeg), .int (xs (nI t + 2).toNatClampNeg)]) (rest := [.int z1]) (a := 164) dL_law_867 kL_112 rfl sh_164 (Nat.le_of_ble_eq_true rfl) (Nat.le_of_ble_eq_true rfl) hk hn h1 (fun r sh2 M3 hq => ?_)
  obtain ⟨z2, rfl, rfl, hG2, he, hI2⟩ := hq
  refine ml_icmp_eq C (pc := 870) (tgt := 1043) dL_law_870 (by decide) (fun _ => kk M3 hG2 hI2) (fun h => absurd he h)
set_option maxRecDepth 100000 in
set_option maxHeartbeats 4000000 in
theorem lw_c23 {Inv : Nat → mm_M → Prop} (S : lw_S23 Inv) {p : Program} {l : Launch} {e : Env} {s : State} {m : MethodId} {below : List Frame} {meth : Method} {c : Code} {b L : Nat} {xs : Nat → Int32} {aT : Nat → ClassId} {D : va_G} {k n t : Nat} {u : Nat} {M : mm_M} (hu : u < 512) (C : ml_ok p s m meth c b L xs aT D) (hL : L ≤ 3072) (ht : t + 6 ≤ L) (hk : k ≤ 600000) (hn : n ≤ 7302250) (hG : mm_G M.2.2) (hI : Inv u M) (kk : ∀ M : mm_M, mm_G M.2.2 → Inv (u + 1) M → ml_W p l e s m below meth c b aT D 1043 [(0, .ref b), (1, .ref (s.heap.size + 0)), (2, .ref (s.heap.size + 164)), (3, .int (nI t))] [] mm_SH M k n) : ml_W p l e s m below meth c b aT D 875 [(0, .ref b), (1, .ref (s.heap.size + 0)), (2, .ref (s.heap.size + 164)), (3, .int (nI t))] [] mm_SH M k n := by
  refine ml_aload_n C (pc := 875) (j := 1) dL_law_875 rfl rfl ?_
  refine ml_aload_n C (pc := 876) (j := 0) dL_law_876 rfl rfl ?_
  refine ml_iload_n C (pc := 877) (j := 3) dL_law_877 rfl rfl ?_
  refine ml_iconst C (pc := 878) (x := 1) dL_law_878 rfl ?_
  refine ml_iadd C (pc := 879) dL_law_879 ?_
  refine ml_sld C (pc := 880) (lw_ix (q := 1) ht hL (by decide)) dL_law_880 ?_
  refine ml_callV C (pc := 881) (As := [.int (xs (nI t + 1).toNatClampNeg)]) (rest := []) (a := 0) dL_law_881 kL_113 rfl sh_0 (Nat.le_of_ble_eq_true rfl) (Nat.le_of_ble_eq_true rfl) hk hn (S u M (xs (nI t + 1).toNatClampNeg) hu hG hI) (fun r sh2 M2 hq => ?_)
  obtain ⟨z1, rfl, rfl, hG1, h1⟩ := hq
  refine ml_aload_n C (pc := 884) (j := 2) dL_law_884 rfl rfl ?_
  refine ml_aload_n C (pc := 885) (j := 0) dL_law_885 rfl rfl ?_
  refine ml_iload_n C (pc := 886) (j := 3) dL_law_886 rfl rfl ?_
  refine ml_iconst C (pc := 887) (x := 1) dL_law_887 rfl ?_
  refine ml_iadd C (pc := 888) dL_law_888 ?_
  refine ml_sld C (pc := 889) (lw_ix (q := 1) ht hL (by decide)) dL_law_889 ?_
  refine ml_callV C (pc := 890) (As := [.int (xs (nI t + 1).toNatClampNeg)]) (rest := [.int z1]) (a := 164) dL_law_890 kL_116 rfl sh_164 (Nat.le_of_ble_eq_true rfl) (Nat.le_of_ble_eq_true rfl) hk hn h1 (fun r sh2 M3 hq => ?_)
  obtain ⟨z2, rfl, rfl, hG2, he, hI2⟩ := hq
  refine ml_icmp_eq C (pc := 893) (tgt := 1043) dL_law_893 (by decide) (fun _ => kk M3 hG2 hI2) (fun h => absurd he h)
set_option maxRecDepth 100000 in
set_option maxHeartbeats 4000000 in
theorem lw_c24 {Inv : Nat → mm_M → Prop} (S : lw_S24 Inv) {p : Program} {l : Launch} {e : Env} {s : State} {m : MethodId} {below : List Frame} {meth : Method} {c : Code} {b L : Nat} {xs : Nat → Int32} {aT : Nat → ClassId} {D : va_G} {k n t : Nat} {u : Nat} {M : mm_M} (hu : u < 512) (C : ml_ok p s m meth c b L xs aT D) (hL : L ≤ 3072) (ht : t + 6 ≤ L) (hk : k ≤ 600000) (hn : n ≤ 7302250) (hG : mm_G M.2.2) (hI : Inv u M) (kk : ∀ M : mm_M, mm_G M.2.2 → Inv (u + 1) M → ml_W p l e s m below meth c b aT D 1043 [(0, .ref b), (1, .ref (s.heap.size + 0)), (2, .ref (s.heap.size + 164)), (3, .int (nI t))] [] mm_SH M k n) : ml_W p l e s m below meth c b aT D 898 [(0, .ref b), (1, .ref (s.heap.size + 0)), (2, .ref (s.heap.size + 164)), (3, .int (nI t))] [] mm_SH M k n := by
  refine ml_aload_n C (pc := 898) (j := 1) dL_law_898 rfl rfl ?_
  refine ml_aload_n C (pc := 899) (j := 0) dL_law_899 rfl rfl ?_
  refine ml_iload_n C (pc := 900) (j := 3) dL_law_900 rfl rfl ?_
  refine ml_iconst C (pc := 901) (x := 1) dL_law_901 rfl ?_
  refine ml_iadd C (pc := 902) dL_law_902 ?_
  refine ml_sld C (pc := 903) (lw_ix (q := 1) ht hL (by decide)) dL_law_903 ?_
  refine ml_callV C (pc := 904) (As := [.int (xs (nI t + 1).toNatClampNeg)]) (rest := []) (a := 0) dL_law_904 kL_117 rfl sh_0 (Nat.le_of_ble_eq_true rfl) (Nat.le_of_ble_eq_true rfl) hk hn (S u M (xs (nI t + 1).toNatClampNeg) hu hG hI) (fun r sh2 M2 hq => ?_)
  obtain ⟨z1, rfl, rfl, hG1, h1⟩ := hq
  refine ml_aload_n C (pc := 907) (j := 2) dL_law_907 rfl rfl ?_
  refine ml_aload_n C (pc := 908) (j := 0) dL_law_908 rfl rfl ?_
  refine ml_iload_n C (pc := 909) (j := 3) dL_law_909 rfl rfl ?_
  refine ml_iconst C (pc := 910) (x := 1) dL_law_910 rfl ?_
  refine ml_iadd C (pc := 911) dL_law_911 ?_
  refine ml_sld C (pc := 912) (lw_ix (q := 1) ht hL (by decide)) dL_law_912 ?_
  refine ml_callV C (pc := 913) (As := [.int (xs (nI t + 1).toNatClampNeg)]) (rest := [.int z1]) (a := 164) dL_law_913 kL_120 rfl sh_164 (Nat.le_of_ble_eq_true rfl) (Nat.le_of_ble_eq_true rfl) hk hn h1 (fun r sh2 M3 hq => ?_)
  obtain ⟨z2, rfl, rfl, hG2, he, hI2⟩ := hq
  refine ml_icmp_eq C (pc := 916) (tgt := 1043) dL_law_916 (by decide) (fun _ => kk M3 hG2 hI2) (fun h => absurd he h)
set_option maxRecDepth 100000 in
set_option maxHeartbeats 4000000 in
theorem lw_c25 {Inv : Nat → mm_M → Prop} (S : lw_S25 Inv) {p : Program} {l : Launch} {e : Env} {s : State} {m : MethodId} {below : List Frame} {meth : Method} {c : Code} {b L : Nat} {xs : Nat → Int32} {aT : Nat → ClassId} {D : va_G} {k n t : Nat} {u : Nat} {M : mm_M} (hu : u < 512) (C : ml_ok p s m meth c b L xs aT D) (hL : L ≤ 3072) (ht : t + 6 ≤ L) (hk : k ≤ 600000) (hn : n ≤ 7302250) (hG : mm_G M.2.2) (hI : Inv u M) (kk : ∀ M : mm_M, mm_G M.2.2 → Inv (u + 1) M → ml_W p l e s m below meth c b aT D 1043 [(0, .ref b), (1, .ref (s.heap.size + 0)), (2, .ref (s.heap.size + 164)), (3, .int (nI t))] [] mm_SH M k n) : ml_W p l e s m below meth c b aT D 921 [(0, .ref b), (1, .ref (s.heap.size + 0)), (2, .ref (s.heap.size + 164)), (3, .int (nI t))] [] mm_SH M k n := by
  refine ml_aload_n C (pc := 921) (j := 1) dL_law_921 rfl rfl ?_
  refine ml_callV C (pc := 922) (As := []) (rest := []) (a := 0) dL_law_922 kL_121 rfl sh_0 (Nat.le_of_ble_eq_true rfl) (Nat.le_of_ble_eq_true rfl) hk hn (S u M hu hG hI) (fun r sh2 M2 hq => ?_)
  obtain ⟨z1, rfl, rfl, hG1, h1⟩ := hq
  refine ml_aload_n C (pc := 925) (j := 2) dL_law_925 rfl rfl ?_
  refine ml_callV C (pc := 926) (As := []) (rest := [.int z1]) (a := 164) dL_law_926 kL_125 rfl sh_164 (Nat.le_of_ble_eq_true rfl) (Nat.le_of_ble_eq_true rfl) hk hn h1 (fun r sh2 M3 hq => ?_)
  obtain ⟨z2, rfl, rfl, hG2, he, hI2⟩ := hq
  refine ml_icmp_eq C (pc := 929) (tgt := 1043) dL_law_929 (by decide) (fun _ => kk M3 hG2 hI2) (fun h => absurd he h)
set_option maxRecDepth 100000 in
set_option maxHeartbeats 4000000 in
theorem lw_c26 {Inv : Nat → mm_M → Prop} (S : lw_S26 Inv) {p : Program} {l : Launch} {e : Env} {s : State} {m : MethodId} {below : List Frame} {meth : Method} {c : Code} {b L : Nat} {xs : Nat → Int32} {aT : Nat → ClassId} {D : va_G} {k n t : Nat} {u : Nat} {M : mm_M} (hu : u < 512) (C : ml_ok p s m meth c b L xs aT D) (hL : L ≤ 3072) (ht : t + 6 ≤ L) (hk : k ≤ 600000) (hn : n ≤ 7302250) (hG : mm_G M.2.2) (hI : Inv u M) (kk : ∀ M : mm_M, mm_G M.2.2 → Inv (u + 1) M → ml_W p l e s m below meth c b aT D 1043 [(0, .ref b), (1, .ref (s.heap.size + 0)), (2, .ref (s.heap.size + 164)), (3, .int (nI t))] [] mm_SH M k n) : ml_W p l e s m below meth c b aT D 934 [(0, .ref b), (1, .ref (s.heap.size + 0)), (2, .ref (s.heap.size + 164)), (3, .int (nI t))] [] mm_SH M k n := by
  refine ml_aload_n C (pc := 934) (j := 1) dL_law_934 rfl rfl ?_
  refine ml_aload_n C (pc := 935) (j := 0) dL_law_935 rfl rfl ?_
  refine ml_iload_n C (pc := 936) (j := 3) dL_law_936 rfl rfl ?_
  refine ml_iconst C (pc := 937) (x := 1) dL_law_937 rfl ?_
  refine ml_iadd C (pc := 938) dL_law_938 ?_
  refine ml_sld C (pc := 939) (lw_ix (q := 1) ht hL (by decide)) dL_law_939 ?_
  refine ml_callV C (pc := 940) (As := [.int (xs (nI t + 1).toNatClampNeg)]) (rest := []) (a := 0) dL_law_940 kL_126 rfl sh_0 (Nat.le_of_ble_eq_true rfl) (Nat.le_of_ble_eq_true rfl) hk hn (S u M (xs (nI t + 1).toNatClampNeg) hu hG hI) (fun r sh2 M2 hq => ?_)
  obtain ⟨z1, rfl, rfl, hG1, h1⟩ := hq
  refine ml_aload_n C (pc := 943) (j := 2) dL_law_943 rfl rfl ?_
  refine ml_aload_n C (pc := 944) (j := 0) dL_law_944 rfl rfl ?_
  refine ml_iload_n C (pc := 945) (j := 3) dL_law_945 rfl rfl ?_
  refine ml_iconst C (pc := 946) (x := 1) dL_law_946 rfl ?_
  refine ml_iadd C (pc := 947) dL_law_947 ?_
  refine ml_sld C (pc := 948) (lw_ix (q := 1) ht hL (by decide)) dL_law_948 ?_
  refine ml_callV C (pc := 949) (As := [.int (xs (nI t + 1).toNatClampNeg)]) (rest := [.int z1]) (a := 164) dL_law_949 kL_129 rfl sh_164 (Nat.le_of_ble_eq_true rfl) (Nat.le_of_ble_eq_true rfl) hk hn h1 (fun r sh2 M3 hq => ?_)
  obtain ⟨z2, rfl, rfl, hG2, he, hI2⟩ := hq
  refine ml_icmp_eq C (pc := 952) (tgt := 1043) dL_law_952 (by decide) (fun _ => kk M3 hG2 hI2) (fun h => absurd he h)
set_option maxRecDepth 100000 in
set_option maxHeartbeats 4000000 in
theorem lw_c27 {Inv : Nat → mm_M → Prop} (S : lw_S27 Inv) {p : Program} {l : Launch} {e : Env} {s : State} {m : MethodId} {below : List Frame} {meth : Method} {c : Code} {b L : Nat} {xs : Nat → Int32} {aT : Nat → ClassId} {D : va_G} {k n t : Nat} {u : Nat} {M : mm_M} (hu : u < 512) (C : ml_ok p s m meth c b L xs aT D) (hL : L ≤ 3072) (ht : t + 6 ≤ L) (hk : k ≤ 600000) (hn : n ≤ 7302250) (hG : mm_G M.2.2) (hI : Inv u M) (kk : ∀ M : mm_M, mm_G M.2.2 → Inv (u + 1) M → ml_W p l e s m below meth c b aT D 1043 [(0, .ref b), (1, .ref (s.heap.size + 0)), (2, .ref (s.heap.size + 164)), (3, .int (nI t))] [] mm_SH M k n) : ml_W p l e s m below meth c b aT D 957 [(0, .ref b), (1, .ref (s.heap.size + 0)), (2, .ref (s.heap.size + 164)), (3, .int (nI t))] [] mm_SH M k n := by
  refine ml_aload_n C (pc := 957) (j := 1) dL_law_957 rfl rfl ?_
  refine ml_callV C (pc := 958) (As := []) (rest := []) (a := 0) dL_law_958 kL_130 rfl sh_0 (Nat.le_of_ble_eq_true rfl) (Nat.le_of_ble_eq_true rfl) hk hn (S u M hu hG hI) (fun r sh2 M2 hq => ?_)
  obtain ⟨z1, rfl, rfl, hG1, h1⟩ := hq
  refine ml_aload_n C (pc := 961) (j := 2) dL_law_961 rfl rfl ?_
  refine ml_callV C (pc := 962) (As := []) (rest := [.long z1]) (a := 164) dL_law_962 kL_134 rfl sh_164 (Nat.le_of_ble_eq_true rfl) (Nat.le_of_ble_eq_true rfl) hk hn h1 (fun r sh2 M3 hq => ?_)
  obtain ⟨z2, rfl, rfl, hG2, he, hI2⟩ := hq
  refine ml_lcmp C (pc := 965) dL_law_965 ?_
  refine ml_if_eq C (pc := 966) (tgt := 1043) dL_law_966 (by decide) (fun _ => kk M3 hG2 hI2) (fun h => absurd (lgc_eq.mpr he) h)
set_option maxRecDepth 100000 in
set_option maxHeartbeats 4000000 in
theorem lw_c28 {Inv : Nat → mm_M → Prop} (S : lw_S28 Inv) {p : Program} {l : Launch} {e : Env} {s : State} {m : MethodId} {below : List Frame} {meth : Method} {c : Code} {b L : Nat} {xs : Nat → Int32} {aT : Nat → ClassId} {D : va_G} {k n t : Nat} {u : Nat} {M : mm_M} (hu : u < 512) (C : ml_ok p s m meth c b L xs aT D) (hL : L ≤ 3072) (ht : t + 6 ≤ L) (hk : k ≤ 600000) (hn : n ≤ 7302250) (hG : mm_G M.2.2) (hI : Inv u M) (kk : ∀ M : mm_M, mm_G M.2.2 → Inv (u + 1) M → ml_W p l e s m below meth c b aT D 1043 [(0, .ref b), (1, .ref (s.heap.size + 0)), (2, .ref (s.heap.size + 164)), (3, .int (nI t))] [] mm_SH M k n) : ml_W p l e s m below meth c b aT D 971 [(0, .ref b), (1, .ref (s.heap.size + 0)), (2, .ref (s.heap.size + 164)), (3, .int (nI t))] [] mm_SH M k n := by
  refine ml_aload_n C (pc := 971) (j := 1) dL_law_971 rfl rfl ?_
  refine ml_callV C (pc := 972) (As := []) (rest := []) (a := 0) dL_law_972 kL_135 rfl sh_0 (Nat.le_of_ble_eq_true rfl) (Nat.le_of_ble_eq_true rfl) hk hn (S u M hu hG hI) (fun r sh2 M2 hq => ?_)
  obtain ⟨z1, rfl, rfl, hG1, h1⟩ := hq
  refine ml_aload_n C (pc := 975) (j := 2) dL_law_975 rfl rfl ?_
  refine ml_callV C (pc := 976) (As := []) (rest := [.int z1]) (a := 164) dL_law_976 kL_138 rfl sh_164 (Nat.le_of_ble_eq_true rfl) (Nat.le_of_ble_eq_true rfl) hk hn h1 (fun r sh2 M3 hq => ?_)
  obtain ⟨z2, rfl, rfl, hG2, he, hI2⟩ := hq
  refine ml_icmp_eq C (pc := 979) (tgt := 1043) dL_law_979 (by decide) (fun _ => kk M3 hG2 hI2) (fun h => absurd he h)
set_option maxRecDepth 100000 in
set_option maxHeartbeats 4000000 in
theorem lw_c29 {Inv : Nat → mm_M → Prop} (S : lw_S29 Inv) {p : Program} {l : Launch} {e : Env} {s : State} {m : MethodId} {below : List Frame} {meth : Method} {c : Code} {b L : Nat} {xs : Nat → Int32} {aT : Nat → ClassId} {D : va_G} {k n t : Nat} {u : Nat} {M : mm_M} (hu : u < 512) (C : ml_ok p s m meth c b L xs aT D) (hL : L ≤ 3072) (ht : t + 6 ≤ L) (hk : k ≤ 600000) (hn : n ≤ 7302250) (hG : mm_G M.2.2) (hI : Inv u M) (kk : ∀ M : mm_M, mm_G M.2.2 → Inv (u + 1) M → ml_W p l e s m below meth c b aT D 1043 [(0, .ref b), (1, .ref (s.heap.size + 0)), (2, .ref (s.heap.size + 164)), (3, .int (nI t))] [] mm_SH M k n) : ml_W p l e s m below meth c b aT D 984 [(0, .ref b), (1, .ref (s.heap.size + 0)), (2, .ref (s.heap.size + 164)), (3, .int (nI t))] [] mm_SH M k n := by
  refine ml_aload_n C (pc := 984) (j := 1) dL_law_984 rfl rfl ?_
  refine ml_aload_n C (pc := 985) (j := 0) dL_law_985 rfl rfl ?_
  refine ml_iload_n C (pc := 986) (j := 3) dL_law_986 rfl rfl ?_
  refine ml_iconst C (pc := 987) (x := 1) dL_law_987 rfl ?_
  refine ml_iadd C (pc := 988) dL_law_988 ?_
  refine ml_sld C (pc := 989) (lw_ix (q := 1) ht hL (by decide)) dL_law_989 ?_
  refine ml_callV C (pc := 990) (As := [.int (xs (nI t + 1).toNatClampNeg)]) (rest := []) (a := 0) dL_law_990 kL_139 rfl sh_0 (Nat.le_of_ble_eq_true rfl) (Nat.le_of_ble_eq_true rfl) hk hn (S u M (xs (nI t + 1).toNatClampNeg) hu hG hI) (fun r sh2 M2 hq => ?_)
  obtain ⟨z1, rfl, rfl, hG1, h1⟩ := hq
  refine ml_aload_n C (pc := 993) (j := 2) dL_law_993 rfl rfl ?_
  refine ml_aload_n C (pc := 994) (j := 0) dL_law_994 rfl rfl ?_
  refine ml_iload_n C (pc := 995) (j := 3) dL_law_995 rfl rfl ?_
  refine ml_iconst C (pc := 996) (x := 1) dL_law_996 rfl ?_
  refine ml_iadd C (pc := 997) dL_law_997 ?_
  refine ml_sld C (pc := 998) (lw_ix (q := 1) ht hL (by decide)) dL_law_998 ?_
  refine ml_callV C (pc := 999) (As := [.int (xs (nI t + 1).toNatClampNeg)]) (rest := [.int z1]) (a := 164) dL_law_999 kL_142 rfl sh_164 (Nat.le_of_ble_eq_true rfl) (Nat.le_of_ble_eq_true rfl) hk hn h1 (fun r sh2 M3 hq => ?_)
  obtain ⟨z2, rfl, rfl, hG2, he, hI2⟩ := hq
  refine ml_icmp_eq C (pc := 1002) (tgt := 1043) dL_law_1002 (by decide) (fun _ => kk M3 hG2 hI2) (fun h => absurd he h)
set_option maxRecDepth 100000 in
set_option maxHeartbeats 4000000 in
theorem lw_c30 {Inv : Nat → mm_M → Prop} (S : lw_S30 Inv) {p : Program} {l : Launch} {e : Env} {s : State} {m : MethodId} {below : List Frame} {meth : Method} {c : Code} {b L : Nat} {xs : Nat → Int32} {aT : Nat → ClassId} {D : va_G} {k n t : Nat} {u : Nat} {M : mm_M} (hu : u < 512) (C : ml_ok p s m meth c b L xs aT D) (hL : L ≤ 3072) (ht : t + 6 ≤ L) (hk : k ≤ 600000) (hn : n ≤ 7302250) (hG : mm_G M.2.2) (hI : Inv u M) (kk : ∀ M : mm_M, mm_G M.2.2 → Inv (u + 1) M → ml_W p l e s m below meth c b aT D 1043 [(0, .ref b), (1, .ref (s.heap.size + 0)), (2, .ref (s.heap.size + 164)), (3, .int (nI t))] [] mm_SH M k n) : ml_W p l e s m below meth c b aT D 1007 [(0, .ref b), (1, .ref (s.heap.size + 0)), (2, .ref (s.heap.size + 164)), (3, .int (nI t))] [] mm_SH M k n := by
  refine ml_aload_n C (pc := 1007) (j := 1) dL_law_1007 rfl rfl ?_
  refine ml_callV C (pc := 1008) (As := []) (rest := []) (a := 0) dL_law_1008 kL_143 rfl sh_0 (Nat.le_of_ble_eq_true rfl) (Nat.le_of_ble_eq_true rfl) hk hn (S u M hu hG hI) (fun r sh2 M2 hq => ?_)
  obtain ⟨z1, rfl, rfl, hG1, h1⟩ := hq
  refine ml_aload_n C (pc := 1011) (j := 2) dL_law_1011 rfl rfl ?_
  refine ml_callV C (pc := 1012) (As := []) (rest := [.int z1]) (a := 164) dL_law_1012 kL_146 rfl sh_164 (Nat.le_of_ble_eq_true rfl) (Nat.le_of_ble_eq_true rfl) hk hn h1 (fun r sh2 M3 hq => ?_)
  obtain ⟨z2, rfl, rfl, hG2, he, hI2⟩ := hq
  refine ml_icmp_eq C (pc := 1015) (tgt := 1043) dL_law_1015 (by decide) (fun _ => kk M3 hG2 hI2) (fun h => absurd he h)
set_option maxRecDepth 100000 in
set_option maxHeartbeats 4000000 in
theorem lw_c31 {Inv : Nat → mm_M → Prop} (S : lw_S31 Inv) {p : Program} {l : Launch} {e : Env} {s : State} {m : MethodId} {below : List Frame} {meth : Method} {c : Code} {b L : Nat} {xs : Nat → Int32} {aT : Nat → ClassId} {D : va_G} {k n t : Nat} {u : Nat} {M : mm_M} (hu : u < 512) (C : ml_ok p s m meth c b L xs aT D) (hL : L ≤ 3072) (ht : t + 6 ≤ L) (hk : k ≤ 600000) (hn : n ≤ 7302250) (hG : mm_G M.2.2) (hI : Inv u M) (kk : ∀ M : mm_M, mm_G M.2.2 → Inv (u + 1) M → ml_W p l e s m below meth c b aT D 1043 [(0, .ref b), (1, .ref (s.heap.size + 0)), (2, .ref (s.heap.size + 164)), (3, .int (nI t))] [] mm_SH M k n) : ml_W p l e s m below meth c b aT D 1020 [(0, .ref b), (1, .ref (s.heap.size + 0)), (2, .ref (s.heap.size + 164)), (3, .int (nI t))] [] mm_SH M k n := by
  refine ml_aload_n C (pc := 1020) (j := 1) dL_law_1020 rfl rfl ?_
  refine ml_aload_n C (pc := 1021) (j := 0) dL_law_1021 rfl rfl ?_
  refine ml_iload_n C (pc := 1022) (j := 3) dL_law_1022 rfl rfl ?_
  refine ml_iconst C (pc := 1023) (x := 1) dL_law_1023 rfl ?_
  refine ml_iadd C (pc := 1024) dL_law_1024 ?_
  refine ml_sld C (pc := 1025) (lw_ix (q := 1) ht hL (by decide)) dL_law_1025 ?_
  refine ml_callV C (pc := 1026) (As := [.int (xs (nI t + 1).toNatClampNeg)]) (rest := []) (a := 0) dL_law_1026 kL_147 rfl sh_0 (Nat.le_of_ble_eq_true rfl) (Nat.le_of_ble_eq_true rfl) hk hn (S u M (xs (nI t + 1).toNatClampNeg) hu hG hI) (fun r sh2 M2 hq => ?_)
  obtain ⟨z1, rfl, rfl, hG1, h1⟩ := hq
  refine ml_aload_n C (pc := 1029) (j := 2) dL_law_1029 rfl rfl ?_
  refine ml_aload_n C (pc := 1030) (j := 0) dL_law_1030 rfl rfl ?_
  refine ml_iload_n C (pc := 1031) (j := 3) dL_law_1031 rfl rfl ?_
  refine ml_iconst C (pc := 1032) (x := 1) dL_law_1032 rfl ?_
  refine ml_iadd C (pc := 1033) dL_law_1033 ?_
  refine ml_sld C (pc := 1034) (lw_ix (q := 1) ht hL (by decide)) dL_law_1034 ?_
  refine ml_callV C (pc := 1035) (As := [.int (xs (nI t + 1).toNatClampNeg)]) (rest := [.int z1]) (a := 164) dL_law_1035 kL_150 rfl sh_164 (Nat.le_of_ble_eq_true rfl) (Nat.le_of_ble_eq_true rfl) hk hn h1 (fun r sh2 M3 hq => ?_)
  obtain ⟨z2, rfl, rfl, hG2, he, hI2⟩ := hq
  refine ml_icmp_eq C (pc := 1038) (tgt := 1043) dL_law_1038 (by decide) (fun _ => kk M3 hG2 hI2) (fun h => absurd he h)
set_option maxRecDepth 100000 in
set_option maxHeartbeats 4000000 in
theorem lw_loop {Inv : Nat → mm_M → Prop} (S0 : lw_S0 Inv) (S1 : lw_S1 Inv) (S2 : lw_S2 Inv) (S3 : lw_S3 Inv) (S4 : lw_S4 Inv) (S5 : lw_S5 Inv) (S6 : lw_S6 Inv) (S7 : lw_S7 Inv) (S8 : lw_S8 Inv) (S9 : lw_S9 Inv) (S10 : lw_S10 Inv) (S11 : lw_S11 Inv) (S12 : lw_S12 Inv) (S13 : lw_S13 Inv) (S14 : lw_S14 Inv) (S15 : lw_S15 Inv) (S16 : lw_S16 Inv) (S17 : lw_S17 Inv) (S18 : lw_S18 Inv) (S19 : lw_S19 Inv) (S20 : lw_S20 Inv) (S21 : lw_S21 Inv) (S22 : lw_S22 Inv) (S23 : lw_S23 Inv) (S24 : lw_S24 Inv) (S25 : lw_S25 Inv) (S26 : lw_S26 Inv) (S27 : lw_S27 Inv) (S28 : lw_S28 Inv) (S29 : lw_S29 Inv) (S30 : lw_S30 Inv) (S31 : lw_S31 Inv) {p : Program} {l : Launch} {e : Env} {s : State} {m : MethodId} {below : List Frame} {meth : Method} {c : Code} {b L : Nat} {xs : Nat → Int32} {aT : Nat → ClassId} {D : va_G} {k n : Nat} (C : ml_ok p s m meth c b L xs aT D) (hL : L ≤ 3072) (hk : k ≤ 600000) (hn : n ≤ 7302250) : ∀ (f u t : Nat) (M : mm_M), t = 6 * u → u ≤ 513 → 513 - u < f → mm_G M.2.2 → Inv u M → ml_W p l e s m below meth c b aT D 18 [(0, .ref b), (1, .ref (s.heap.size + 0)), (2, .ref (s.heap.size + 164)), (3, .int (nI t))] [] mm_SH M k n := by
  intro f
  induction f with
  | zero => intro u t M _ _ h; exact absurd h (Nat.not_lt_zero _)
  | succ f ih =>
    intro u t M htu hu hf hG hI
    have ht : t ≤ 3080 := by omega
    refine ml_iload_n C (pc := 18) (j := 3) dL_law_18 rfl rfl ?_
    refine ml_aload_n C (pc := 19) (j := 0) dL_law_19 rfl rfl ?_
    refine ml_slen C (pc := 20) dL_law_20 ?_
    refine ml_bipush C (pc := 21) (x := 6) dL_law_21 rfl ?_
    refine ml_isub C (pc := 23) dL_law_23 ?_
    refine ml_icmp_gt C (pc := 24) (tgt := 1049) dL_law_24 (by decide) (fun hc => ?_) (fun hc => ?_)
    · refine ml_iconst C (pc := 1049) (x := 1) dL_law_1049 rfl ?_
      exact ml_ret C (pc := 1050) dL_law_1050 hk hn
    · have h6 := lw_go hL ht hc
      have hu2 : u < 512 := by omega
      have kk : ∀ M : mm_M, mm_G M.2.2 → Inv (u + 1) M → ml_W p l e s m below meth c b aT D 1043 [(0, .ref b), (1, .ref (s.heap.size + 0)), (2, .ref (s.heap.size + 164)), (3, .int (nI t))] [] mm_SH M k n := by
        intro M hG hI
        refine ml_iinc C (pc := 1043) (j := 3) (v := nI (t + 6)) (lv' := [(3, .int (nI (t + 6))), (0, .ref b), (1, .ref (s.heap.size + 0)), (2, .ref (s.heap.size + 164))]) dL_law_1043 rfl (by rw [← nI_add]; rfl) (by decide) rfl ?_
        refine ml_goto C (pc := 1046) (tgt := 18) dL_law_1046 (by decide) ?_
        exact ml_sub [1, 2, 3, 0] rfl (ih (u + 1) (t + 6) M (by omega) (by omega) (by omega) hG hI)
      refine ml_aload_n C (pc := 27) (j := 0) dL_law_27 rfl rfl ?_
      refine ml_iload_n C (pc := 28) (j := 3) dL_law_28 rfl rfl ?_
      refine ml_sld C (pc := 29) (vp_in_nI (by omega) (by omega)) dL_law_29 ?_
      refine ml_bipush C (pc := 30) (x := 31) dL_law_30 rfl ?_
      refine ml_iand C (pc := 32) dL_law_32 ?_
      obtain ⟨j, hj, ej⟩ := pk_andE (xs (nI t).toNatClampNeg) (m := 31) 5 (by decide)
      rw [ej]
      have hj : j < 32 := hj
      match j, hj with
      | 0, _ => exact ml_tableIn C (pc := 33) (off := 143) (tgt := 176) dL_law_33 (by decide +kernel) (by decide +kernel) (by decide +kernel) (by decide) (lw_c0 S0 hu2 C hL h6 hk hn hG hI kk)
      | 1, _ => exact ml_tableIn C (pc := 33) (off := 206) (tgt := 239) dL_law_33 (by decide +kernel) (by decide +kernel) (by decide +kernel) (by decide) (lw_c1 S1 hu2 C hL h6 hk hn hG hI kk)
      | 2, _ => exact ml_tableIn C (pc := 33) (off := 229) (tgt := 262) dL_law_33 (by decide +kernel) (by decide +kernel) (by decide +kernel) (by decide) (lw_c2 S2 hu2 C hL h6 hk hn hG hI kk)
      | 3, _ => exact ml_tableIn C (pc := 33) (off := 242) (tgt := 275) dL_law_33 (by decide +kernel) (by decide +kernel) (by decide +kernel) (by decide) (lw_c3 S3 hu2 C hL h6 hk hn hG hI kk)
      | 4, _ => exact ml_tableIn C (pc := 33) (off := 265) (tgt := 298) dL_law_33 (by decide +kernel) (by decide +kernel) (by decide +kernel) (by decide) (lw_c4 S4 hu2 C hL h6 hk hn hG hI kk)
      | 5, _ => exact ml_tableIn C (pc := 33) (off := 288) (tgt := 321) dL_law_33 (by decide +kernel) (by decide +kernel) (by decide +kernel) (by decide) (lw_c5 S5 hu2 C hL h6 hk hn hG hI kk)
      | 6, _ => exact ml_tableIn C (pc := 33) (off := 321) (tgt := 354) dL_law_33 (by decide +kernel) (by decide +kernel) (by decide +kernel) (by decide) (lw_c6 S6 hu2 C hL h6 hk hn hG hI kk)
      | 7, _ => exact ml_tableIn C (pc := 33) (off := 354) (tgt := 387) dL_law_33 (by decide +kernel) (by decide +kernel) (by decide +kernel) (by decide) (lw_c7 S7 hu2 C hL h6 hk hn hG hI kk)
      | 8, _ => exact ml_tableIn C (pc := 33) (off := 387) (tgt := 420) dL_law_33 (by decide +kernel) (by decide +kernel) (by decide +kernel) (by decide) (lw_c8 S8 hu2 C hL h6 hk hn hG hI kk)
      | 9, _ => exact ml_tableIn C (pc := 33) (off := 410) (tgt := 443) dL_law_33 (by decide +kernel) (by decide +kernel) (by decide +kernel) (by decide) (lw_c9 S9 hu2 C hL h6 hk hn hG hI kk)
      | 10, _ => exact ml_tableIn C (pc := 33) (off := 443) (tgt := 476) dL_law_33 (by decide +kernel) (by decide +kernel) (by decide +kernel) (by decide) (lw_c10 S10 hu2 C hL h6 hk hn hG hI kk)
      | 11, _ => exact ml_tableIn C (pc := 33) (off := 476) (tgt := 509) dL_law_33 (by decide +kernel) (by decide +kernel) (by decide +kernel) (by decide) (lw_c11 S11 hu2 C hL h6 hk hn hG hI kk)
      | 12, _ => exact ml_tableIn C (pc := 33) (off := 519) (tgt := 552) dL_law_33 (by decide +kernel) (by decide +kernel) (by decide +kernel) (by decide) (lw_c12 S12 hu2 C hL h6 hk hn hG hI kk)
      | 13, _ => exact ml_tableIn C (pc := 33) (off := 562) (tgt := 595) dL_law_33 (by decide +kernel) (by decide +kernel) (by decide +kernel) (by decide) (lw_c13 S13 hu2 C hL h6 hk hn hG hI kk)
      | 14, _ => exact ml_tableIn C (pc := 33) (off := 585) (tgt := 618) dL_law_33 (by decide +kernel) (by decide +kernel) (by decide +kernel) (by decide) (lw_c14 S14 hu2 C hL h6 hk hn hG hI kk)
      | 15, _ => exact ml_tableIn C (pc := 33) (off := 608) (tgt := 641) dL_law_33 (by decide +kernel) (by decide +kernel) (by decide +kernel) (by decide) (lw_c15 S15 hu2 C hL h6 hk hn hG hI kk)
      | 16, _ => exact ml_tableIn C (pc := 33) (off := 631) (tgt := 664) dL_law_33 (by decide +kernel) (by decide +kernel) (by decide +kernel) (by decide) (lw_c16 S16 hu2 C hL h6 hk hn hG hI kk)
      | 17, _ => exact ml_tableIn C (pc := 33) (off := 664) (tgt := 697) dL_law_33 (by decide +kernel) (by decide +kernel) (by decide +kernel) (by decide) (lw_c17 S17 hu2 C hL h6 hk hn hG hI kk)
      | 18, _ => exact ml_tableIn C (pc := 33) (off := 687) (tgt := 720) dL_law_33 (by decide +kernel) (by decide +kernel) (by decide +kernel) (by decide) (lw_c18 S18 hu2 C hL h6 hk hn hG hI kk)
      | 19, _ => exact ml_tableIn C (pc := 33) (off := 700) (tgt := 733) dL_law_33 (by decide +kernel) (by decide +kernel) (by decide +kernel) (by decide) (lw_c19 S19 hu2 C hL h6 hk hn hG hI kk)
      | 20, _ => exact ml_tableIn C (pc := 33) (off := 733) (tgt := 766) dL_law_33 (by decide +kernel) (by decide +kernel) (by decide +kernel) (by decide) (lw_c20 S20 hu2 C hL h6 hk hn hG hI kk)
      | 21, _ => exact ml_tableIn C (pc := 33) (off := 766) (tgt := 799) dL_law_33 (by decide +kernel) (by decide +kernel) (by decide +kernel) (by decide) (lw_c21 S21 hu2 C hL h6 hk hn hG hI kk)
      | 22, _ => exact ml_tableIn C (pc := 33) (off := 809) (tgt := 842) dL_law_33 (by decide +kernel) (by decide +kernel) (by decide +kernel) (by decide) (lw_c22 S22 hu2 C hL h6 hk hn hG hI kk)
      | 23, _ => exact ml_tableIn C (pc := 33) (off := 842) (tgt := 875) dL_law_33 (by decide +kernel) (by decide +kernel) (by decide +kernel) (by decide) (lw_c23 S23 hu2 C hL h6 hk hn hG hI kk)
      | 24, _ => exact ml_tableIn C (pc := 33) (off := 865) (tgt := 898) dL_law_33 (by decide +kernel) (by decide +kernel) (by decide +kernel) (by decide) (lw_c24 S24 hu2 C hL h6 hk hn hG hI kk)
      | 25, _ => exact ml_tableIn C (pc := 33) (off := 888) (tgt := 921) dL_law_33 (by decide +kernel) (by decide +kernel) (by decide +kernel) (by decide) (lw_c25 S25 hu2 C hL h6 hk hn hG hI kk)
      | 26, _ => exact ml_tableIn C (pc := 33) (off := 901) (tgt := 934) dL_law_33 (by decide +kernel) (by decide +kernel) (by decide +kernel) (by decide) (lw_c26 S26 hu2 C hL h6 hk hn hG hI kk)
      | 27, _ => exact ml_tableIn C (pc := 33) (off := 924) (tgt := 957) dL_law_33 (by decide +kernel) (by decide +kernel) (by decide +kernel) (by decide) (lw_c27 S27 hu2 C hL h6 hk hn hG hI kk)
      | 28, _ => exact ml_tableIn C (pc := 33) (off := 938) (tgt := 971) dL_law_33 (by decide +kernel) (by decide +kernel) (by decide +kernel) (by decide) (lw_c28 S28 hu2 C hL h6 hk hn hG hI kk)
      | 29, _ => exact ml_tableIn C (pc := 33) (off := 951) (tgt := 984) dL_law_33 (by decide +kernel) (by decide +kernel) (by decide +kernel) (by decide) (lw_c29 S29 hu2 C hL h6 hk hn hG hI kk)
      | 30, _ => exact ml_tableIn C (pc := 33) (off := 974) (tgt := 1007) dL_law_33 (by decide +kernel) (by decide +kernel) (by decide +kernel) (by decide) (lw_c30 S30 hu2 C hL h6 hk hn hG hI kk)
      | 31, _ => exact ml_tableIn C (pc := 33) (off := 987) (tgt := 1020) dL_law_33 (by decide +kernel) (by decide +kernel) (by decide +kernel) (by decide) (lw_c31 S31 hu2 C hL h6 hk hn hG hI kk)
      | j + 32, h => omega
