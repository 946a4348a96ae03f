/-- the script: at b, L ints xs, nothing of the world -/
def ps_XS (z : ps_X) (b L : Nat) (xs : Nat → Int32) : Prop := va_X b L xs (z_s z) (z_s z).heap ∧ b < (z_s z).heap.size ∧ ¬ ps_A (z_ad z) (z_s z).heap.size b
section PSL
variable {z : ps_X} {cc : ByteArray} {nL : Nat} {own : String} {pc : Nat} {lv lv' : List (Nat × Value)} {st st0 : List Value} {σ σ' : ps_S}
theorem ps_sld (C : ps_C z cc nL own) {b L : Nat} {xs : Nat → Int32} (X : ps_XS z b L xs) {i : Int32} (hi : vp_in i L) (d : decode cc pc = .ok (.iaload, 1)) (kk : ps_at z nL (pc + 1) lv (.int (xs i.toNatClampNeg) :: st) σ) : ps_at z nL pc lv (.int i :: .ref b :: st) σ := fun H locs ls hP hS hl => va_sld C.1.1 C.1.2.1 X.1 X.2.1 X.2.2 hS hi d (kk H locs ls hP hS hl)
theorem ps_slen (C : ps_C z cc nL own) {b L : Nat} {xs : Nat → Int32} (X : ps_XS z b L xs) (d : decode cc pc = .ok (.arraylength, 1)) (kk : ps_at z nL (pc + 1) lv (.int (nI L) :: st) σ) : ps_at z nL pc lv (.ref b :: st) σ := fun H locs ls hP hS hl => va_slen C.1.1 C.1.2.1 X.1 X.2.1 X.2.2 hS d (kk H locs ls hP hS hl)
/-- one exception more may have been made -/
def z_more (z : ps_X) : ps_X := (z_s z, z_R z, z_l z, z_p z, z_e z, z_m z, z_args z, z_below z, z_meth z, z_c z, z_cells z + 1, z_slots z + 6, z_Q z, z_E z)
theorem ps_Cmore (C : ps_C z cc nL own) : ps_C (z_more z) cc nL own := C
theorem ps_XSmore {b L : Nat} {xs : Nat → Int32} (X : ps_XS z b L xs) : ps_XS (z_more z) b L xs := X
theorem ps_more (k : ps_at (z_more z) nL pc lv st σ) : ps_at z nL pc lv st σ := fun H locs ls hP hS hl => W.widen (k := z_cells z + 1) (n := z_slots z + 6) (Nat.le_succ _) (Nat.le_add_right _ _) (k H locs ls hP hS hl)
end PSL
/-- the law's part(): 1 where the class throws, else 0 and the answer in out -/
def fL_part (a1 a2 : Int32) (σ : ps_S) : Option (Int32 × ps_S) := (fX4_partOrNone a1 a2 σ).bind fun q => if q.1 = (-1 : Int32) then some ((1 : Int32), q.2) else some ((0 : Int32), ps_ul q.2 59 0 (Int32.toInt64 q.1))
/-- .. is what the machine does -/
def ps_PartOk (z : ps_X) : Prop := ∀ (pc : Nat) (lv : List (Nat × Value)) (st : List Value) (a1 a2 : Int32) (σ : ps_S) (q : Int32 × ps_S), decode cL_law pc = .ok (.invokestatic 106, 3) → (st.map fun v => v.category).sum ≤ 4 → fL_part a1 a2 σ = some q → ps_at (z_more z) 7 (pc + 3) lv (.int q.1 :: st) q.2 → ps_at z 7 pc lv (.ref (z_ad z 59) :: .int a2 :: .int a1 :: .ref (z_ad z 0) :: st) σ
def fL_c0 (xs : Nat → Int32) (L : Nat) (a4 : Int32) (σ : ps_S) : Option ps_S :=
  (ps_ck (a4 + (1 : Int32)) L ((ps_ck (a4 + (2 : Int32)) L ((ps_ck (a4 + (3 : Int32)) L ((ps_ck (a4 + (4 : Int32)) L ((ps_ck (a4 + (5 : Int32)) L (((fX4_feed (xs (Int32.toNatClampNeg (a4 + (1 : Int32)))) (xs (Int32.toNatClampNeg (a4 + (2 : Int32)))) (xs (Int32.toNatClampNeg (a4 + (3 : Int32)))) (xs (Int32.toNatClampNeg (a4 + (4 : Int32)))) (xs (Int32.toNatClampNeg (a4 + (5 : Int32)))) σ).bind fun q6 =>
  (ps_ck (a4 + (1 : Int32)) L ((ps_ck (a4 + (2 : Int32)) L ((ps_ck (a4 + (3 : Int32)) L ((ps_ck (a4 + (4 : Int32)) L ((ps_ck (a4 + (5 : Int32)) L (((fX5_feed (xs (Int32.toNatClampNeg (a4 + (1 : Int32)))) (xs (Int32.toNatClampNeg (a4 + (2 : Int32)))) (xs (Int32.toNatClampNeg (a4 + (3 : Int32)))) (xs (Int32.toNatClampNeg (a4 + (4 : Int32)))) (xs (Int32.toNatClampNeg (a4 + (5 : Int32)))) q6.2).bind fun q12 =>
  (if q6.1 = q12.1 then some q12.2
  else none)))))))))))))))))))))))
set_option maxHeartbeats 4000000 in
set_option maxRecDepth 100000 in
theorem tL_c0 {z : ps_X} (C : ps_C z cL_law 7 "PartSumsLaw") (Z : ps_Z z 19 604) (ZM : ps_Z (z_more z) 19 604) {b L : Nat} {xs : Nat → Int32} (X : ps_XS z b L xs) {a4 : Int32} {σ r : ps_S} (h : fL_c0 xs L a4 σ = some r) (k : ps_at (z_more z) 7 1364 [(0, .ref b), (1, .ref (z_ad z 0)), (2, .ref (z_ad z 45)), (3, .ref (z_ad z 59)), (4, .int a4)] [] r) : ps_at z 7 184 [(0, .ref b), (1, .ref (z_ad z 0)), (2, .ref (z_ad z 45)), (3, .ref (z_ad z 59)), (4, .int a4)] [] σ := by
  unfold fL_c0 at h
  refine ps_aload_n C (pc := 184) dL_law_184 1 rfl ?_
  refine ps_aload_n C (pc := 185) dL_law_185 0 rfl ?_
  refine ps_iload C (pc := 186) dL_law_186 4 rfl ?_
  refine ps_iconst C (pc := 188) (v := 1) dL_law_188 (by decide) ?_
  refine ps_iadd C (pc := 189) dL_law_189 ?_
  obtain ⟨hi1, h⟩ := ps_ck_s h
  refine ps_sld C (pc := 190) X hi1 dL_law_190 ?_
  refine ps_aload_n C (pc := 191) dL_law_191 0 rfl ?_
  refine ps_iload C (pc := 192) dL_law_192 4 rfl ?_
  refine ps_iconst C (pc := 194) (v := 2) dL_law_194 (by decide) ?_
  refine ps_iadd C (pc := 195) dL_law_195 ?_
  obtain ⟨hi2, h⟩ := ps_ck_s h
  refine ps_sld C (pc := 196) X hi2 dL_law_196 ?_
  refine ps_aload_n C (pc := 197) dL_law_197 0 rfl ?_
  refine ps_iload C (pc := 198) dL_law_198 4 rfl ?_
  refine ps_iconst C (pc := 200) (v := 3) dL_law_200 (by decide) ?_
  refine ps_iadd C (pc := 201) dL_law_201 ?_
  obtain ⟨hi3, h⟩ := ps_ck_s h
  refine ps_sld C (pc := 202) X hi3 dL_law_202 ?_
  refine ps_aload_n C (pc := 203) dL_law_203 0 rfl ?_
  refine ps_iload C (pc := 204) dL_law_204 4 rfl ?_
  refine ps_iconst C (pc := 206) (v := 4) dL_law_206 (by decide) ?_
  refine ps_iadd C (pc := 207) dL_law_207 ?_
  obtain ⟨hi4, h⟩ := ps_ck_s h
  refine ps_sld C (pc := 208) X hi4 dL_law_208 ?_
  refine ps_aload_n C (pc := 209) dL_law_209 0 rfl ?_
  refine ps_iload C (pc := 210) dL_law_210 4 rfl ?_
  refine ps_iconst C (pc := 212) (v := 5) dL_law_212 (by decide) ?_
  refine ps_iadd C (pc := 213) dL_law_213 ?_
  obtain ⟨hi5, h⟩ := ps_ck_s h
  refine ps_sld C (pc := 214) X hi5 dL_law_214 ?_
  obtain ⟨q6, hq6, h⟩ := ps_bd h
  refine ps_callVI C Z (pc := 215) (As := [.int (xs (Int32.toNatClampNeg (a4 + (1 : Int32)))), .int (xs (Int32.toNatClampNeg (a4 + (2 : Int32)))), .int (xs (Int32.toNatClampNeg (a4 + (3 : Int32)))), .int (xs (Int32.toNatClampNeg (a4 + (4 : Int32)))), .int (xs (Int32.toNatClampNeg (a4 + (5 : Int32))))]) (k0 := 0) (mX4_feed  hq6) (Cn := "PartSums") rfl tw_234 tw_235 tw_236 tw_65 tw_237 hdX4_feed rfl rfl ⟨by decide, by decide⟩ (by decide) ps_o0 rfl rfl (Nat.le_of_ble_eq_true rfl) dL_law_215 rfl ?_
  refine ps_aload_n C (pc := 218) dL_law_218 2 rfl ?_
  refine ps_aload_n C (pc := 219) dL_law_219 0 rfl ?_
  refine ps_iload C (pc := 220) dL_law_220 4 rfl ?_
  refine ps_iconst C (pc := 222) (v := 1) dL_law_222 (by decide) ?_
  refine ps_iadd C (pc := 223) dL_law_223 ?_
  obtain ⟨hi7, h⟩ := ps_ck_s h
  refine ps_sld C (pc := 224) X hi7 dL_law_224 ?_
  refine ps_aload_n C (pc := 225) dL_law_225 0 rfl ?_
  refine ps_iload C (pc := 226) dL_law_226 4 rfl ?_
  refine ps_iconst C (pc := 228) (v := 2) dL_law_228 (by decide) ?_
  refine ps_iadd C (pc := 229) dL_law_229 ?_
  obtain ⟨hi8, h⟩ := ps_ck_s h
  refine ps_sld C (pc := 230) X hi8 dL_law_230 ?_
  refine ps_aload_n C (pc := 231) dL_law_231 0 rfl ?_
  refine ps_iload C (pc := 232) dL_law_232 4 rfl ?_
  refine ps_iconst C (pc := 234) (v := 3) dL_law_234 (by decide) ?_
  refine ps_iadd C (pc := 235) dL_law_235 ?_
  obtain ⟨hi9, h⟩ := ps_ck_s h
  refine ps_sld C (pc := 236) X hi9 dL_law_236 ?_
  refine ps_aload_n C (pc := 237) dL_law_237 0 rfl ?_
  refine ps_iload C (pc := 238) dL_law_238 4 rfl ?_
  refine ps_iconst C (pc := 240) (v := 4) dL_law_240 (by decide) ?_
  refine ps_iadd C (pc := 241) dL_law_241 ?_
  obtain ⟨hi10, h⟩ := ps_ck_s h
  refine ps_sld C (pc := 242) X hi10 dL_law_242 ?_
  refine ps_aload_n C (pc := 243) dL_law_243 0 rfl ?_
  refine ps_iload C (pc := 244) dL_law_244 4 rfl ?_
  refine ps_iconst C (pc := 246) (v := 5) dL_law_246 (by decide) ?_
  refine ps_iadd C (pc := 247) dL_law_247 ?_
  obtain ⟨hi11, h⟩ := ps_ck_s h
  refine ps_sld C (pc := 248) X hi11 dL_law_248 ?_
  obtain ⟨q12, hq12, h⟩ := ps_bd h
  refine ps_callVI C Z (pc := 249) (As := [.int (xs (Int32.toNatClampNeg (a4 + (1 : Int32)))), .int (xs (Int32.toNatClampNeg (a4 + (2 : Int32)))), .int (xs (Int32.toNatClampNeg (a4 + (3 : Int32)))), .int (xs (Int32.toNatClampNeg (a4 + (4 : Int32)))), .int (xs (Int32.toNatClampNeg (a4 + (5 : Int32))))]) (k0 := 45) (mX5_feed  hq12) (Cn := "PartSumsModel") rfl tw_778 tw_779 tw_780 tw_70 tw_781 hdX5_feed rfl rfl ⟨by decide, by decide⟩ (by decide) ps_o45 rfl rfl (Nat.le_of_ble_eq_true rfl) dL_law_249 rfl ?_
  refine ps_icmp_eq C (pc := 252) 1364 dL_law_252 (by decide) (fun hc => ?_) (fun hc => ?_)
  · have h := ps_ift hc h
    obtain rfl := Option.some.inj h
    exact ps_more (ps_sub [0, 1, 2, 3, 4] rfl k)
  · have h := ps_iff hc h
    cases h
def fL_c1 (xs : Nat → Int32) (L : Nat) (a4 : Int32) (σ : ps_S) : Option ps_S :=
  (ps_ck (a4 + (1 : Int32)) L (((fX4_end (xs (Int32.toNatClampNeg (a4 + (1 : Int32)))) σ).bind fun q2 =>
  (ps_ck (a4 + (1 : Int32)) L (((fX5_end (xs (Int32.toNatClampNeg (a4 + (1 : Int32)))) q2.2).bind fun q4 =>
  (if q2.1 = q4.1 then some q4.2
  else none)))))))
set_option maxHeartbeats 4000000 in
set_option maxRecDepth 100000 in
theorem tL_c1 {z : ps_X} (C : ps_C z cL_law 7 "PartSumsLaw") (Z : ps_Z z 19 604) (ZM : ps_Z (z_more z) 19 604) {b L : Nat} {xs : Nat → Int32} (X : ps_XS z b L xs) {a4 : Int32} {σ r : ps_S} (h : fL_c1 xs L a4 σ = some r) (k : ps_at (z_more z) 7 1364 [(0, .ref b), (1, .ref (z_ad z 0)), (2, .ref (z_ad z 45)), (3, .ref (z_ad z 59)), (4, .int a4)] [] r) : ps_at z 7 257 [(0, .ref b), (1, .ref (z_ad z 0)), (2, .ref (z_ad z 45)), (3, .ref (z_ad z 59)), (4, .int a4)] [] σ := by
  unfold fL_c1 at h
  refine ps_aload_n C (pc := 257) dL_law_257 1 rfl ?_
  refine ps_aload_n C (pc := 258) dL_law_258 0 rfl ?_
  refine ps_iload C (pc := 259) dL_law_259 4 rfl ?_
  refine ps_iconst C (pc := 261) (v := 1) dL_law_261 (by decide) ?_
  refine ps_iadd C (pc := 262) dL_law_262 ?_
  obtain ⟨hi1, h⟩ := ps_ck_s h
  refine ps_sld C (pc := 263) X hi1 dL_law_263 ?_
  obtain ⟨q2, hq2, h⟩ := ps_bd h
  refine ps_callVI C Z (pc := 264) (As := [.int (xs (Int32.toNatClampNeg (a4 + (1 : Int32))))]) (k0 := 0) (mX4_end  hq2) (Cn := "PartSums") rfl tw_246 tw_247 tw_248 tw_65 tw_249 hdX4_end rfl rfl ⟨by decide, by decide⟩ (by decide) ps_o0 rfl rfl (Nat.le_of_ble_eq_true rfl) dL_law_264 rfl ?_
  refine ps_aload_n C (pc := 267) dL_law_267 2 rfl ?_
  refine ps_aload_n C (pc := 268) dL_law_268 0 rfl ?_
  refine ps_iload C (pc := 269) dL_law_269 4 rfl ?_
  refine ps_iconst C (pc := 271) (v := 1) dL_law_271 (by decide) ?_
  refine ps_iadd C (pc := 272) dL_law_272 ?_
  obtain ⟨hi3, h⟩ := ps_ck_s h
  refine ps_sld C (pc := 273) X hi3 dL_law_273 ?_
  obtain ⟨q4, hq4, h⟩ := ps_bd h
  refine ps_callVI C Z (pc := 274) (As := [.int (xs (Int32.toNatClampNeg (a4 + (1 : Int32))))]) (k0 := 45) (mX5_end  hq4) (Cn := "PartSumsModel") rfl tw_787 tw_788 tw_789 tw_70 tw_790 hdX5_end rfl rfl ⟨by decide, by decide⟩ (by decide) ps_o45 rfl rfl (Nat.le_of_ble_eq_true rfl) dL_law_274 rfl ?_
  refine ps_icmp_eq C (pc := 277) 1364 dL_law_277 (by decide) (fun hc => ?_) (fun hc => ?_)
  · have h := ps_ift hc h
    obtain rfl := Option.some.inj h
    exact ps_more (ps_sub [0, 1, 2, 3, 4] rfl k)
  · have h := ps_iff hc h
    cases h
def fL_c2 (xs : Nat → Int32) (L : Nat) (a4 : Int32) (σ : ps_S) : Option ps_S :=
  ((fX4_text σ).bind fun q1 =>
  ((fX5_text q1.2).bind fun q2 =>
  (if q1.1 = q2.1 then some q2.2
  else none)))
set_option maxHeartbeats 4000000 in
set_option maxRecDepth 100000 in
theorem tL_c2 {z : ps_X} (C : ps_C z cL_law 7 "PartSumsLaw") (Z : ps_Z z 19 604) (ZM : ps_Z (z_more z) 19 604) {b L : Nat} {xs : Nat → Int32} (X : ps_XS z b L xs) {a4 : Int32} {σ r : ps_S} (h : fL_c2 xs L a4 σ = some r) (k : ps_at (z_more z) 7 1364 [(0, .ref b), (1, .ref (z_ad z 0)), (2, .ref (z_ad z 45)), (3, .ref (z_ad z 59)), (4, .int a4)] [] r) : ps_at z 7 282 [(0, .ref b), (1, .ref (z_ad z 0)), (2, .ref (z_ad z 45)), (3, .ref (z_ad z 59)), (4, .int a4)] [] σ := by
  unfold fL_c2 at h
  refine ps_aload_n C (pc := 282) dL_law_282 1 rfl ?_
  obtain ⟨q1, hq1, h⟩ := ps_bd h
  refine ps_callVI C Z (pc := 283) (As := []) (k0 := 0) (mX4_text  hq1) (Cn := "PartSums") rfl tw_250 tw_251 tw_252 tw_65 tw_253 hdX4_text rfl rfl ⟨by decide, by decide⟩ (by decide) ps_o0 rfl rfl (Nat.le_of_ble_eq_true rfl) dL_law_283 rfl ?_
  refine ps_aload_n C (pc := 286) dL_law_286 2 rfl ?_
  obtain ⟨q2, hq2, h⟩ := ps_bd h
  refine ps_callVI C Z (pc := 287) (As := []) (k0 := 45) (mX5_text  hq2) (Cn := "PartSumsModel") rfl tw_870 tw_871 tw_872 tw_70 tw_873 hdX5_text rfl rfl ⟨by decide, by decide⟩ (by decide) ps_o45 rfl rfl (Nat.le_of_ble_eq_true rfl) dL_law_287 rfl ?_
  refine ps_icmp_eq C (pc := 290) 1364 dL_law_290 (by decide) (fun hc => ?_) (fun hc => ?_)
  · have h := ps_ift hc h
    obtain rfl := Option.some.inj h
    exact ps_more (ps_sub [0, 1, 2, 3, 4] rfl k)
  · have h := ps_iff hc h
    cases h
def fL_c3 (xs : Nat → Int32) (L : Nat) (a4 : Int32) (σ : ps_S) : Option ps_S :=
  ((fX4_fault σ).bind fun q1 =>
  ((fX5_fault σ).bind fun q2 =>
  (if q1 = q2.1 then some q2.2
  else none)))
set_option maxHeartbeats 4000000 in
set_option maxRecDepth 100000 in
theorem tL_c3 {z : ps_X} (C : ps_C z cL_law 7 "PartSumsLaw") (Z : ps_Z z 19 604) (ZM : ps_Z (z_more z) 19 604) {b L : Nat} {xs : Nat → Int32} (X : ps_XS z b L xs) {a4 : Int32} {σ r : ps_S} (h : fL_c3 xs L a4 σ = some r) (k : ps_at (z_more z) 7 1364 [(0, .ref b), (1, .ref (z_ad z 0)), (2, .ref (z_ad z 45)), (3, .ref (z_ad z 59)), (4, .int a4)] [] r) : ps_at z 7 295 [(0, .ref b), (1, .ref (z_ad z 0)), (2, .ref (z_ad z 45)), (3, .ref (z_ad z 59)), (4, .int a4)] [] σ := by
  unfold fL_c3 at h
  refine ps_aload_n C (pc := 295) dL_law_295 1 rfl ?_
  obtain ⟨q1, hq1, h⟩ := ps_bd h
  refine ps_callVI C Z (pc := 296) (As := []) (k0 := 0) (mX4_fault  hq1) (Cn := "PartSums") rfl tw_378 tw_379 tw_380 tw_65 tw_381 hdX4_fault rfl rfl ⟨by decide, by decide⟩ (by decide) ps_o0 rfl rfl (Nat.le_of_ble_eq_true rfl) dL_law_296 rfl ?_
  refine ps_aload_n C (pc := 299) dL_law_299 2 rfl ?_
  obtain ⟨q2, hq2, h⟩ := ps_bd h
  refine ps_callVI C Z (pc := 300) (As := []) (k0 := 45) (mX5_fault  hq2) (Cn := "PartSumsModel") rfl tw_938 tw_939 tw_940 tw_70 tw_941 hdX5_fault rfl rfl ⟨by decide, by decide⟩ (by decide) ps_o45 rfl rfl (Nat.le_of_ble_eq_true rfl) dL_law_300 rfl ?_
  refine ps_icmp_eq C (pc := 303) 1364 dL_law_303 (by decide) (fun hc => ?_) (fun hc => ?_)
  · have h := ps_ift hc h
    obtain rfl := Option.some.inj h
    exact ps_more (ps_sub [0, 1, 2, 3, 4] rfl k)
  · have h := ps_iff hc h
    cases h
def fL_c4 (xs : Nat → Int32) (L : Nat) (a4 : Int32) (σ : ps_S) : Option ps_S :=
  (ps_ck (a4 + (1 : Int32)) L (((fX4_now (xs (Int32.toNatClampNeg (a4 + (1 : Int32)))) σ).bind fun q2 =>
  (ps_ck (a4 + (1 : Int32)) L (((fX5_now (xs (Int32.toNatClampNeg (a4 + (1 : Int32)))) σ).bind fun q4 =>
  (if q2 = q4.1 then some q4.2
  else none)))))))
set_option maxHeartbeats 4000000 in
set_option maxRecDepth 100000 in
theorem tL_c4 {z : ps_X} (C : ps_C z cL_law 7 "PartSumsLaw") (Z : ps_Z z 19 604) (ZM : ps_Z (z_more z) 19 604) {b L : Nat} {xs : Nat → Int32} (X : ps_XS z b L xs) {a4 : Int32} {σ r : ps_S} (h : fL_c4 xs L a4 σ = some r) (k : ps_at (z_more z) 7 1364 [(0, .ref b), (1, .ref (z_ad z 0)), (2, .ref (z_ad z 45)), (3, .ref (z_ad z 59)), (4, .int a4)] [] r) : ps_at z 7 308 [(0, .ref b), (1, .ref (z_ad z 0)), (2, .ref (z_ad z 45)), (3, .ref (z_ad z 59)), (4, .int a4)] [] σ := by
  unfold fL_c4 at h
  refine ps_aload_n C (pc := 308) dL_law_308 1 rfl ?_
  refine ps_aload_n C (pc := 309) dL_law_309 0 rfl ?_
  refine ps_iload C (pc := 310) dL_law_310 4 rfl ?_
  refine ps_iconst C (pc := 312) (v := 1) dL_law_312 (by decide) ?_
  refine ps_iadd C (pc := 313) dL_law_313 ?_
  obtain ⟨hi1, h⟩ := ps_ck_s h
  refine ps_sld C (pc := 314) X hi1 dL_law_314 ?_
  obtain ⟨q2, hq2, h⟩ := ps_bd h
  refine ps_callVI C Z (pc := 315) (As := [.int (xs (Int32.toNatClampNeg (a4 + (1 : Int32))))]) (k0 := 0) (mX4_now  hq2) (Cn := "PartSums") rfl tw_382 tw_383 tw_384 tw_65 tw_385 hdX4_now rfl rfl ⟨by decide, by decide⟩ (by decide) ps_o0 rfl rfl (Nat.le_of_ble_eq_true rfl) dL_law_315 rfl ?_
  refine ps_aload_n C (pc := 318) dL_law_318 2 rfl ?_
  refine ps_aload_n C (pc := 319) dL_law_319 0 rfl ?_
  refine ps_iload C (pc := 320) dL_law_320 4 rfl ?_
  refine ps_iconst C (pc := 322) (v := 1) dL_law_322 (by decide) ?_
  refine ps_iadd C (pc := 323) dL_law_323 ?_
  obtain ⟨hi3, h⟩ := ps_ck_s h
  refine ps_sld C (pc := 324) X hi3 dL_law_324 ?_
  obtain ⟨q4, hq4, h⟩ := ps_bd h
  refine ps_callVI C Z (pc := 325) (As := [.int (xs (Int32.toNatClampNeg (a4 + (1 : Int32))))]) (k0 := 45) (mX5_now  hq4) (Cn := "PartSumsModel") rfl tw_942 tw_943 tw_944 tw_70 tw_945 hdX5_now rfl rfl ⟨by decide, by decide⟩ (by decide) ps_o45 rfl rfl (Nat.le_of_ble_eq_true rfl) dL_law_325 rfl ?_
  refine ps_icmp_eq C (pc := 328) 1364 dL_law_328 (by decide) (fun hc => ?_) (fun hc => ?_)
  · have h := ps_ift hc h
    obtain rfl := Option.some.inj h
    exact ps_more (ps_sub [0, 1, 2, 3, 4] rfl k)
  · have h := ps_iff hc h
    cases h
def fL_c5 (xs : Nat → Int32) (L : Nat) (a4 : Int32) (σ : ps_S) : Option ps_S :=
  (ps_ck (a4 + (1 : Int32)) L (((fX4_weight (xs (Int32.toNatClampNeg (a4 + (1 : Int32)))) σ).bind fun q2 =>
  (ps_ck (a4 + (1 : Int32)) L (((fX5_weight (xs (Int32.toNatClampNeg (a4 + (1 : Int32)))) σ).bind fun q4 =>
  (if q2 = q4.1 then some q4.2
  else none)))))))
set_option maxHeartbeats 4000000 in
set_option maxRecDepth 100000 in
theorem tL_c5 {z : ps_X} (C : ps_C z cL_law 7 "PartSumsLaw") (Z : ps_Z z 19 604) (ZM : ps_Z (z_more z) 19 604) {b L : Nat} {xs : Nat → Int32} (X : ps_XS z b L xs) {a4 : Int32} {σ r : ps_S} (h : fL_c5 xs L a4 σ = some r) (k : ps_at (z_more z) 7 1364 [(0, .ref b), (1, .ref (z_ad z 0)), (2, .ref (z_ad z 45)), (3, .ref (z_ad z 59)), (4, .int a4)] [] r) : ps_at z 7 333 [(0, .ref b), (1, .ref (z_ad z 0)), (2, .ref (z_ad z 45)), (3, .ref (z_ad z 59)), (4, .int a4)] [] σ := by
  unfold fL_c5 at h
  refine ps_aload_n C (pc := 333) dL_law_333 1 rfl ?_
  refine ps_aload_n C (pc := 334) dL_law_334 0 rfl ?_
  refine ps_iload C (pc := 335) dL_law_335 4 rfl ?_
  refine ps_iconst C (pc := 337) (v := 1) dL_law_337 (by decide) ?_
  refine ps_iadd C (pc := 338) dL_law_338 ?_
  obtain ⟨hi1, h⟩ := ps_ck_s h
  refine ps_sld C (pc := 339) X hi1 dL_law_339 ?_
  obtain ⟨q2, hq2, h⟩ := ps_bd h
  refine ps_callVI C Z (pc := 340) (As := [.int (xs (Int32.toNatClampNeg (a4 + (1 : Int32))))]) (k0 := 0) (mX4_weight  hq2) (Cn := "PartSums") rfl tw_400 tw_401 tw_402 tw_65 tw_403 hdX4_weight rfl rfl ⟨by decide, by decide⟩ (by decide) ps_o0 rfl rfl (Nat.le_of_ble_eq_true rfl) dL_law_340 rfl ?_
  refine ps_aload_n C (pc := 343) dL_law_343 2 rfl ?_
  refine ps_aload_n C (pc := 344) dL_law_344 0 rfl ?_
  refine ps_iload C (pc := 345) dL_law_345 4 rfl ?_
  refine ps_iconst C (pc := 347) (v := 1) dL_law_347 (by decide) ?_
  refine ps_iadd C (pc := 348) dL_law_348 ?_
  obtain ⟨hi3, h⟩ := ps_ck_s h
  refine ps_sld C (pc := 349) X hi3 dL_law_349 ?_
  obtain ⟨q4, hq4, h⟩ := ps_bd h
  refine ps_callVI C Z (pc := 350) (As := [.int (xs (Int32.toNatClampNeg (a4 + (1 : Int32))))]) (k0 := 45) (mX5_weight  hq4) (Cn := "PartSumsModel") rfl tw_962 tw_963 tw_964 tw_70 tw_965 hdX5_weight rfl rfl ⟨by decide, by decide⟩ (by decide) ps_o45 rfl rfl (Nat.le_of_ble_eq_true rfl) dL_law_350 rfl ?_
  refine ps_icmp_eq C (pc := 353) 1364 dL_law_353 (by decide) (fun hc => ?_) (fun hc => ?_)
  · have h := ps_ift hc h
    obtain rfl := Option.some.inj h
    exact ps_more (ps_sub [0, 1, 2, 3, 4] rfl k)
  · have h := ps_iff hc h
    cases h
def fL_c6 (xs : Nat → Int32) (L : Nat) (a4 : Int32) (σ : ps_S) : Option ps_S :=
  (ps_ck (a4 + (1 : Int32)) L (((fX4_joined (xs (Int32.toNatClampNeg (a4 + (1 : Int32)))) σ).bind fun q2 =>
  (ps_ck (a4 + (1 : Int32)) L (((fX5_joined (xs (Int32.toNatClampNeg (a4 + (1 : Int32)))) σ).bind fun q4 =>
  (if q2 = q4.1 then some q4.2
  else none)))))))
set_option maxHeartbeats 4000000 in
set_option maxRecDepth 100000 in
theorem tL_c6 {z : ps_X} (C : ps_C z cL_law 7 "PartSumsLaw") (Z : ps_Z z 19 604) (ZM : ps_Z (z_more z) 19 604) {b L : Nat} {xs : Nat → Int32} (X : ps_XS z b L xs) {a4 : Int32} {σ r : ps_S} (h : fL_c6 xs L a4 σ = some r) (k : ps_at (z_more z) 7 1364 [(0, .ref b), (1, .ref (z_ad z 0)), (2, .ref (z_ad z 45)), (3, .ref (z_ad z 59)), (4, .int a4)] [] r) : ps_at z 7 358 [(0, .ref b), (1, .ref (z_ad z 0)), (2, .ref (z_ad z 45)), (3, .ref (z_ad z 59)), (4, .int a4)] [] σ := by
  unfold fL_c6 at h
  refine ps_aload_n C (pc := 358) dL_law_358 1 rfl ?_
  refine ps_aload_n C (pc := 359) dL_law_359 0 rfl ?_
  refine ps_iload C (pc := 360) dL_law_360 4 rfl ?_
  refine ps_iconst C (pc := 362) (v := 1) dL_law_362 (by decide) ?_
  refine ps_iadd C (pc := 363) dL_law_363 ?_
  obtain ⟨hi1, h⟩ := ps_ck_s h
  refine ps_sld C (pc := 364) X hi1 dL_law_364 ?_
  obtain ⟨q2, hq2, h⟩ := ps_bd h
  refine ps_callVI C Z (pc := 365) (As := [.int (xs (Int32.toNatClampNeg (a4 + (1 : Int32))))]) (k0 := 0) (mX4_joined  hq2) (Cn := "PartSums") rfl tw_412 tw_413 tw_414 tw_65 tw_415 hdX4_joined rfl rfl ⟨by decide, by decide⟩ (by decide) ps_o0 rfl rfl (Nat.le_of_ble_eq_true rfl) dL_law_365 rfl ?_
  refine ps_aload_n C (pc := 368) dL_law_368 2 rfl ?_
  refine ps_aload_n C (pc := 369) dL_law_369 0 rfl ?_
  refine ps_iload C (pc := 370) dL_law_370 4 rfl ?_
  refine ps_iconst C (pc := 372) (v := 1) dL_law_372 (by decide) ?_
  refine ps_iadd C (pc := 373) dL_law_373 ?_
  obtain ⟨hi3, h⟩ := ps_ck_s h
  refine ps_sld C (pc := 374) X hi3 dL_law_374 ?_
  obtain ⟨q4, hq4, h⟩ := ps_bd h
  refine ps_callVI C Z (pc := 375) (As := [.int (xs (Int32.toNatClampNeg (a4 + (1 : Int32))))]) (k0 := 45) (mX5_joined  hq4) (Cn := "PartSumsModel") rfl tw_970 tw_971 tw_972 tw_70 tw_973 hdX5_joined rfl rfl ⟨by decide, by decide⟩ (by decide) ps_o45 rfl rfl (Nat.le_of_ble_eq_true rfl) dL_law_375 rfl ?_
  refine ps_icmp_eq C (pc := 378) 1364 dL_law_378 (by decide) (fun hc => ?_) (fun hc => ?_)
  · have h := ps_ift hc h
    obtain rfl := Option.some.inj h
    exact ps_more (ps_sub [0, 1, 2, 3, 4] rfl k)
  · have h := ps_iff hc h
    cases h
def fL_c7 (xs : Nat → Int32) (L : Nat) (a4 : Int32) (σ : ps_S) : Option ps_S :=
  (ps_ck (a4 + (1 : Int32)) L ((ps_ck (a4 + (2 : Int32)) L (((fX4_at (xs (Int32.toNatClampNeg (a4 + (1 : Int32)))) (xs (Int32.toNatClampNeg (a4 + (2 : Int32)))) σ).bind fun q3 =>
  (ps_ck (a4 + (1 : Int32)) L ((ps_ck (a4 + (2 : Int32)) L (((fX5_at (xs (Int32.toNatClampNeg (a4 + (1 : Int32)))) (xs (Int32.toNatClampNeg (a4 + (2 : Int32)))) σ).bind fun q6 =>
  (if q3 = q6.1 then some q6.2
  else none)))))))))))
set_option maxHeartbeats 4000000 in
set_option maxRecDepth 100000 in
theorem tL_c7 {z : ps_X} (C : ps_C z cL_law 7 "PartSumsLaw") (Z : ps_Z z 19 604) (ZM : ps_Z (z_more z) 19 604) {b L : Nat} {xs : Nat → Int32} (X : ps_XS z b L xs) {a4 : Int32} {σ r : ps_S} (h : fL_c7 xs L a4 σ = some r) (k : ps_at (z_more z) 7 1364 [(0, .ref b), (1, .ref (z_ad z 0)), (2, .ref (z_ad z 45)), (3, .ref (z_ad z 59)), (4, .int a4)] [] r) : ps_at z 7 383 [(0, .ref b), (1, .ref (z_ad z 0)), (2, .ref (z_ad z 45)), (3, .ref (z_ad z 59)), (4, .int a4)] [] σ := by
  unfold fL_c7 at h
  refine ps_aload_n C (pc := 383) dL_law_383 1 rfl ?_
  refine ps_aload_n C (pc := 384) dL_law_384 0 rfl ?_
  refine ps_iload C (pc := 385) dL_law_385 4 rfl ?_
  refine ps_iconst C (pc := 387) (v := 1) dL_law_387 (by decide) ?_
  refine ps_iadd C (pc := 388) dL_law_388 ?_
  obtain ⟨hi1, h⟩ := ps_ck_s h
  refine ps_sld C (pc := 389) X hi1 dL_law_389 ?_
  refine ps_aload_n C (pc := 390) dL_law_390 0 rfl ?_
  refine ps_iload C (pc := 391) dL_law_391 4 rfl ?_
  refine ps_iconst C (pc := 393) (v := 2) dL_law_393 (by decide) ?_
  refine ps_iadd C (pc := 394) dL_law_394 ?_
  obtain ⟨hi2, h⟩ := ps_ck_s h
  refine ps_sld C (pc := 395) X hi2 dL_law_395 ?_
  obtain ⟨q3, hq3, h⟩ := ps_bd h
  refine ps_callVI C Z (pc := 396) (As := [.int (xs (Int32.toNatClampNeg (a4 + (1 : Int32)))), .int (xs (Int32.toNatClampNeg (a4 + (2 : Int32))))]) (k0 := 0) (mX4_at  hq3) (Cn := "PartSums") rfl tw_424 tw_425 tw_426 tw_65 tw_427 hdX4_at rfl rfl ⟨by decide, by decide⟩ (by decide) ps_o0 rfl rfl (Nat.le_of_ble_eq_true rfl) dL_law_396 rfl ?_
  refine ps_aload_n C (pc := 399) dL_law_399 2 rfl ?_
  refine ps_aload_n C (pc := 400) dL_law_400 0 rfl ?_
  refine ps_iload C (pc := 401) dL_law_401 4 rfl ?_
  refine ps_iconst C (pc := 403) (v := 1) dL_law_403 (by decide) ?_
  refine ps_iadd C (pc := 404) dL_law_404 ?_
  obtain ⟨hi4, h⟩ := ps_ck_s h
  refine ps_sld C (pc := 405) X hi4 dL_law_405 ?_
  refine ps_aload_n C (pc := 406) dL_law_406 0 rfl ?_
  refine ps_iload C (pc := 407) dL_law_407 4 rfl ?_
  refine ps_iconst C (pc := 409) (v := 2) dL_law_409 (by decide) ?_
  refine ps_iadd C (pc := 410) dL_law_410 ?_
  obtain ⟨hi5, h⟩ := ps_ck_s h
  refine ps_sld C (pc := 411) X hi5 dL_law_411 ?_
  obtain ⟨q6, hq6, h⟩ := ps_bd h
  refine ps_callVI C Z (pc := 412) (As := [.int (xs (Int32.toNatClampNeg (a4 + (1 : Int32)))), .int (xs (Int32.toNatClampNeg (a4 + (2 : Int32))))]) (k0 := 45) (mX5_at  hq6) (Cn := "PartSumsModel") rfl tw_978 tw_979 tw_980 tw_70 tw_981 hdX5_at rfl rfl ⟨by decide, by decide⟩ (by decide) ps_o45 rfl rfl (Nat.le_of_ble_eq_true rfl) dL_law_412 rfl ?_
  refine ps_icmp_eq C (pc := 415) 1364 dL_law_415 (by decide) (fun hc => ?_) (fun hc => ?_)
  · have h := ps_ift hc h
    obtain rfl := Option.some.inj h
    exact ps_more (ps_sub [0, 1, 2, 3, 4] rfl k)
  · have h := ps_iff hc h
    cases h
def fL_c8 (xs : Nat → Int32) (L : Nat) (a4 : Int32) (σ : ps_S) : Option ps_S :=
  (ps_ck (a4 + (1 : Int32)) L ((ps_ck (a4 + (2 : Int32)) L ((ps_ck (a4 + (3 : Int32)) L (((fX4_put (xs (Int32.toNatClampNeg (a4 + (1 : Int32)))) (xs (Int32.toNatClampNeg (a4 + (2 : Int32)))) (xs (Int32.toNatClampNeg (a4 + (3 : Int32)))) σ).bind fun q4 =>
  (ps_ck (a4 + (1 : Int32)) L ((ps_ck (a4 + (2 : Int32)) L ((ps_ck (a4 + (3 : Int32)) L (((fX5_put (xs (Int32.toNatClampNeg (a4 + (1 : Int32)))) (xs (Int32.toNatClampNeg (a4 + (2 : Int32)))) (xs (Int32.toNatClampNeg (a4 + (3 : Int32)))) q4.2).bind fun q8 =>
  (if q4.1 = q8.1 then some q8.2
  else none)))))))))))))))
set_option maxHeartbeats 4000000 in
set_option maxRecDepth 100000 in
theorem tL_c8 {z : ps_X} (C : ps_C z cL_law 7 "PartSumsLaw") (Z : ps_Z z 19 604) (ZM : ps_Z (z_more z) 19 604) {b L : Nat} {xs : Nat → Int32} (X : ps_XS z b L xs) {a4 : Int32} {σ r : ps_S} (h : fL_c8 xs L a4 σ = some r) (k : ps_at (z_more z) 7 1364 [(0, .ref b), (1, .ref (z_ad z 0)), (2, .ref (z_ad z 45)), (3, .ref (z_ad z 59)), (4, .int a4)] [] r) : ps_at z 7 420 [(0, .ref b), (1, .ref (z_ad z 0)), (2, .ref (z_ad z 45)), (3, .ref (z_ad z 59)), (4, .int a4)] [] σ := by
  unfold fL_c8 at h
  refine ps_aload_n C (pc := 420) dL_law_420 1 rfl ?_
  refine ps_aload_n C (pc := 421) dL_law_421 0 rfl ?_
  refine ps_iload C (pc := 422) dL_law_422 4 rfl ?_
  refine ps_iconst C (pc := 424) (v := 1) dL_law_424 (by decide) ?_
  refine ps_iadd C (pc := 425) dL_law_425 ?_
  obtain ⟨hi1, h⟩ := ps_ck_s h
  refine ps_sld C (pc := 426) X hi1 dL_law_426 ?_
  refine ps_aload_n C (pc := 427) dL_law_427 0 rfl ?_
  refine ps_iload C (pc := 428) dL_law_428 4 rfl ?_
  refine ps_iconst C (pc := 430) (v := 2) dL_law_430 (by decide) ?_
  refine ps_iadd C (pc := 431) dL_law_431 ?_
  obtain ⟨hi2, h⟩ := ps_ck_s h
  refine ps_sld C (pc := 432) X hi2 dL_law_432 ?_
  refine ps_aload_n C (pc := 433) dL_law_433 0 rfl ?_
  refine ps_iload C (pc := 434) dL_law_434 4 rfl ?_
  refine ps_iconst C (pc := 436) (v := 3) dL_law_436 (by decide) ?_
  refine ps_iadd C (pc := 437) dL_law_437 ?_
  obtain ⟨hi3, h⟩ := ps_ck_s h
  refine ps_sld C (pc := 438) X hi3 dL_law_438 ?_
  obtain ⟨q4, hq4, h⟩ := ps_bd h
  refine ps_callVI C Z (pc := 439) (As := [.int (xs (Int32.toNatClampNeg (a4 + (1 : Int32)))), .int (xs (Int32.toNatClampNeg (a4 + (2 : Int32)))), .int (xs (Int32.toNatClampNeg (a4 + (3 : Int32))))]) (k0 := 0) (mX4_put  hq4) (Cn := "PartSums") rfl tw_432 tw_433 tw_434 tw_65 tw_435 hdX4_put rfl rfl ⟨by decide, by decide⟩ (by decide) ps_o0 rfl rfl (Nat.le_of_ble_eq_true rfl) dL_law_439 rfl ?_
  refine ps_aload_n C (pc := 442) dL_law_442 2 rfl ?_
  refine ps_aload_n C (pc := 443) dL_law_443 0 rfl ?_
  refine ps_iload C (pc := 444) dL_law_444 4 rfl ?_
  refine ps_iconst C (pc := 446) (v := 1) dL_law_446 (by decide) ?_
  refine ps_iadd C (pc := 447) dL_law_447 ?_
  obtain ⟨hi5, h⟩ := ps_ck_s h
  refine ps_sld C (pc := 448) X hi5 dL_law_448 ?_
  refine ps_aload_n C (pc := 449) dL_law_449 0 rfl ?_
  refine ps_iload C (pc := 450) dL_law_450 4 rfl ?_
  refine ps_iconst C (pc := 452) (v := 2) dL_law_452 (by decide) ?_
  refine ps_iadd C (pc := 453) dL_law_453 ?_
  obtain ⟨hi6, h⟩ := ps_ck_s h
  refine ps_sld C (pc := 454) X hi6 dL_law_454 ?_
  refine ps_aload_n C (pc := 455) dL_law_455 0 rfl ?_
  refine ps_iload C (pc := 456) dL_law_456 4 rfl ?_
  refine ps_iconst C (pc := 458) (v := 3) dL_law_458 (by decide) ?_
  refine ps_iadd C (pc := 459) dL_law_459 ?_
  obtain ⟨hi7, h⟩ := ps_ck_s h
  refine ps_sld C (pc := 460) X hi7 dL_law_460 ?_
  obtain ⟨q8, hq8, h⟩ := ps_bd h
  refine ps_callVI C Z (pc := 461) (As := [.int (xs (Int32.toNatClampNeg (a4 + (1 : Int32)))), .int (xs (Int32.toNatClampNeg (a4 + (2 : Int32)))), .int (xs (Int32.toNatClampNeg (a4 + (3 : Int32))))]) (k0 := 45) (mX5_put  hq8) (Cn := "PartSumsModel") rfl tw_990 tw_991 tw_992 tw_70 tw_993 hdX5_put rfl rfl ⟨by decide, by decide⟩ (by decide) ps_o45 rfl rfl (Nat.le_of_ble_eq_true rfl) dL_law_461 rfl ?_
  refine ps_icmp_eq C (pc := 464) 1364 dL_law_464 (by decide) (fun hc => ?_) (fun hc => ?_)
  · have h := ps_ift hc h
    obtain rfl := Option.some.inj h
    exact ps_more (ps_sub [0, 1, 2, 3, 4] rfl k)
  · have h := ps_iff hc h
    cases h
def fL_c9 (xs : Nat → Int32) (L : Nat) (a4 : Int32) (σ : ps_S) : Option ps_S :=
  (ps_ck (a4 + (1 : Int32)) L ((ps_ck (a4 + (2 : Int32)) L (((fX4_lay (xs (Int32.toNatClampNeg (a4 + (1 : Int32)))) (xs (Int32.toNatClampNeg (a4 + (2 : Int32)))) σ).bind fun q3 =>
  (ps_ck (a4 + (1 : Int32)) L ((ps_ck (a4 + (2 : Int32)) L (((fX5_lay (xs (Int32.toNatClampNeg (a4 + (1 : Int32)))) (xs (Int32.toNatClampNeg (a4 + (2 : Int32)))) q3.2).bind fun q6 =>
  (if q3.1 = q6.1 then some q6.2
  else none)))))))))))
set_option maxHeartbeats 4000000 in
set_option maxRecDepth 100000 in
theorem tL_c9 {z : ps_X} (C : ps_C z cL_law 7 "PartSumsLaw") (Z : ps_Z z 19 604) (ZM : ps_Z (z_more z) 19 604) {b L : Nat} {xs : Nat → Int32} (X : ps_XS z b L xs) {a4 : Int32} {σ r : ps_S} (h : fL_c9 xs L a4 σ = some r) (k : ps_at (z_more z) 7 1364 [(0, .ref b), (1, .ref (z_ad z 0)), (2, .ref (z_ad z 45)), (3, .ref (z_ad z 59)), (4, .int a4)] [] r) : ps_at z 7 469 [(0, .ref b), (1, .ref (z_ad z 0)), (2, .ref (z_ad z 45)), (3, .ref (z_ad z 59)), (4, .int a4)] [] σ := by
  unfold fL_c9 at h
  refine ps_aload_n C (pc := 469) dL_law_469 1 rfl ?_
  refine ps_aload_n C (pc := 470) dL_law_470 0 rfl ?_
  refine ps_iload C (pc := 471) dL_law_471 4 rfl ?_
  refine ps_iconst C (pc := 473) (v := 1) dL_law_473 (by decide) ?_
  refine ps_iadd C (pc := 474) dL_law_474 ?_
  obtain ⟨hi1, h⟩ := ps_ck_s h
  refine ps_sld C (pc := 475) X hi1 dL_law_475 ?_
  refine ps_aload_n C (pc := 476) dL_law_476 0 rfl ?_
  refine ps_iload C (pc := 477) dL_law_477 4 rfl ?_
  refine ps_iconst C (pc := 479) (v := 2) dL_law_479 (by decide) ?_
  refine ps_iadd C (pc := 480) dL_law_480 ?_
  obtain ⟨hi2, h⟩ := ps_ck_s h
  refine ps_sld C (pc := 481) X hi2 dL_law_481 ?_
  obtain ⟨q3, hq3, h⟩ := ps_bd h
  refine ps_callVI C Z (pc := 482) (As := [.int (xs (Int32.toNatClampNeg (a4 + (1 : Int32)))), .int (xs (Int32.toNatClampNeg (a4 + (2 : Int32))))]) (k0 := 0) (mX4_lay  hq3) (Cn := "PartSums") rfl tw_450 tw_451 tw_452 tw_65 tw_453 hdX4_lay rfl rfl ⟨by decide, by decide⟩ (by decide) ps_o0 rfl rfl (Nat.le_of_ble_eq_true rfl) dL_law_482 rfl ?_
  refine ps_aload_n C (pc := 485) dL_law_485 2 rfl ?_
  refine ps_aload_n C (pc := 486) dL_law_486 0 rfl ?_
  refine ps_iload C (pc := 487) dL_law_487 4 rfl ?_
  refine ps_iconst C (pc := 489) (v := 1) dL_law_489 (by decide) ?_
  refine ps_iadd C (pc := 490) dL_law_490 ?_
  obtain ⟨hi4, h⟩ := ps_ck_s h
  refine ps_sld C (pc := 491) X hi4 dL_law_491 ?_
  refine ps_aload_n C (pc := 492) dL_law_492 0 rfl ?_
  refine ps_iload C (pc := 493) dL_law_493 4 rfl ?_
  refine ps_iconst C (pc := 495) (v := 2) dL_law_495 (by decide) ?_
  refine ps_iadd C (pc := 496) dL_law_496 ?_
  obtain ⟨hi5, h⟩ := ps_ck_s h
  refine ps_sld C (pc := 497) X hi5 dL_law_497 ?_
  obtain ⟨q6, hq6, h⟩ := ps_bd h
  refine ps_callVI C Z (pc := 498) (As := [.int (xs (Int32.toNatClampNeg (a4 + (1 : Int32)))), .int (xs (Int32.toNatClampNeg (a4 + (2 : Int32))))]) (k0 := 45) (mX5_lay  hq6) (Cn := "PartSumsModel") rfl tw_1002 tw_1003 tw_1004 tw_70 tw_1005 hdX5_lay rfl rfl ⟨by decide, by decide⟩ (by decide) ps_o45 rfl rfl (Nat.le_of_ble_eq_true rfl) dL_law_498 rfl ?_
  refine ps_icmp_eq C (pc := 501) 1364 dL_law_501 (by decide) (fun hc => ?_) (fun hc => ?_)
  · have h := ps_ift hc h
    obtain rfl := Option.some.inj h
    exact ps_more (ps_sub [0, 1, 2, 3, 4] rfl k)
  · have h := ps_iff hc h
    cases h
def fL_c10 (xs : Nat → Int32) (L : Nat) (a4 : Int32) (σ : ps_S) : Option ps_S :=
  (ps_ck (a4 + (1 : Int32)) L ((ps_ck (a4 + (2 : Int32)) L ((if (xs (Int32.toNatClampNeg (a4 + (2 : Int32)))) = 0 then ((fX4_sum (xs (Int32.toNatClampNeg (a4 + (1 : Int32)))) (0 : Int32) σ).bind fun q3 =>
  (ps_ck (a4 + (1 : Int32)) L ((ps_ck (a4 + (2 : Int32)) L ((if (xs (Int32.toNatClampNeg (a4 + (2 : Int32)))) = 0 then ((fX5_sum (xs (Int32.toNatClampNeg (a4 + (1 : Int32)))) (0 : Int32) q3.2).bind fun q6 =>
  (if q3.1 = q6.1 then some q6.2
  else none))
  else ((fX5_sum (xs (Int32.toNatClampNeg (a4 + (1 : Int32)))) (1 : Int32) q3.2).bind fun q7 =>
  (if q3.1 = q7.1 then some q7.2
  else none))))))))
  else ((fX4_sum (xs (Int32.toNatClampNeg (a4 + (1 : Int32)))) (1 : Int32) σ).bind fun q8 =>
  (ps_ck (a4 + (1 : Int32)) L ((ps_ck (a4 + (2 : Int32)) L ((if (xs (Int32.toNatClampNeg (a4 + (2 : Int32)))) = 0 then ((fX5_sum (xs (Int32.toNatClampNeg (a4 + (1 : Int32)))) (0 : Int32) q8.2).bind fun q11 =>
  (if q8.1 = q11.1 then some q11.2
  else none))
  else ((fX5_sum (xs (Int32.toNatClampNeg (a4 + (1 : Int32)))) (1 : Int32) q8.2).bind fun q12 =>
  (if q8.1 = q12.1 then some q12.2
  else none)))))))))))))
set_option maxHeartbeats 4000000 in
set_option maxRecDepth 100000 in
theorem tL_c10 {z : ps_X} (C : ps_C z cL_law 7 "PartSumsLaw") (Z : ps_Z z 19 604) (ZM : ps_Z (z_more z) 19 604) {b L : Nat} {xs : Nat → Int32} (X : ps_XS z b L xs) {a4 : Int32} {σ r : ps_S} (h : fL_c10 xs L a4 σ = some r) (k : ps_at (z_more z) 7 1364 [(0, .ref b), (1, .ref (z_ad z 0)), (2, .ref (z_ad z 45)), (3, .ref (z_ad z 59)), (4, .int a4)] [] r) : ps_at z 7 506 [(0, .ref b), (1, .ref (z_ad z 0)), (2, .ref (z_ad z 45)), (3, .ref (z_ad z 59)), (4, .int a4)] [] σ := by
  unfold fL_c10 at h
  refine ps_aload_n C (pc := 506) dL_law_506 1 rfl ?_
  refine ps_aload_n C (pc := 507) dL_law_507 0 rfl ?_
  refine ps_iload C (pc := 508) dL_law_508 4 rfl ?_
  refine ps_iconst C (pc := 510) (v := 1) dL_law_510 (by decide) ?_
  refine ps_iadd C (pc := 511) dL_law_511 ?_
  obtain ⟨hi1, h⟩ := ps_ck_s h
  refine ps_sld C (pc := 512) X hi1 dL_law_512 ?_
  refine ps_aload_n C (pc := 513) dL_law_513 0 rfl ?_
  refine ps_iload C (pc := 514) dL_law_514 4 rfl ?_
  refine ps_iconst C (pc := 516) (v := 2) dL_law_516 (by decide) ?_
  refine ps_iadd C (pc := 517) dL_law_517 ?_
  obtain ⟨hi2, h⟩ := ps_ck_s h
  refine ps_sld C (pc := 518) X hi2 dL_law_518 ?_
  refine ps_if_eq C (pc := 519) 526 dL_law_519 (by decide) (fun hc => ?_) (fun hc => ?_)
  · have h := ps_ift hc h
    refine ps_iconst C (pc := 526) (v := 0) dL_law_526 (by decide) ?_
    obtain ⟨q3, hq3, h⟩ := ps_bd h
    refine ps_callVI C Z (pc := 527) (As := [.int (xs (Int32.toNatClampNeg (a4 + (1 : Int32)))), .int (0 : Int32)]) (k0 := 0) (mX4_sum  hq3) (Cn := "PartSums") rfl tw_478 tw_479 tw_480 tw_65 tw_481 hdX4_sum rfl rfl ⟨by decide, by decide⟩ (by decide) ps_o0 rfl rfl (Nat.le_of_ble_eq_true rfl) dL_law_527 rfl ?_
    refine ps_aload_n C (pc := 530) dL_law_530 2 rfl ?_
    refine ps_aload_n C (pc := 531) dL_law_531 0 rfl ?_
    refine ps_iload C (pc := 532) dL_law_532 4 rfl ?_
    refine ps_iconst C (pc := 534) (v := 1) dL_law_534 (by decide) ?_
    refine ps_iadd C (pc := 535) dL_law_535 ?_
    obtain ⟨hi4, h⟩ := ps_ck_s h
    refine ps_sld C (pc := 536) X hi4 dL_law_536 ?_
    refine ps_aload_n C (pc := 537) dL_law_537 0 rfl ?_
    refine ps_iload C (pc := 538) dL_law_538 4 rfl ?_
    refine ps_iconst C (pc := 540) (v := 2) dL_law_540 (by decide) ?_
    refine ps_iadd C (pc := 541) dL_law_541 ?_
    obtain ⟨hi5, h⟩ := ps_ck_s h
    refine ps_sld C (pc := 542) X hi5 dL_law_542 ?_
    refine ps_if_eq C (pc := 543) 550 dL_law_543 (by decide) (fun hc => ?_) (fun hc => ?_)
    · have h := ps_ift hc h
      refine ps_iconst C (pc := 550) (v := 0) dL_law_550 (by decide) ?_
      obtain ⟨q6, hq6, h⟩ := ps_bd h
      refine ps_callVI C Z (pc := 551) (As := [.int (xs (Int32.toNatClampNeg (a4 + (1 : Int32)))), .int (0 : Int32)]) (k0 := 45) (mX5_sum  hq6) (Cn := "PartSumsModel") rfl tw_1022 tw_1023 tw_1024 tw_70 tw_1025 hdX5_sum rfl rfl ⟨by decide, by decide⟩ (by decide) ps_o45 rfl rfl (Nat.le_of_ble_eq_true rfl) dL_law_551 rfl ?_
      refine ps_icmp_eq C (pc := 554) 1364 dL_law_554 (by decide) (fun hc => ?_) (fun hc => ?_)
      · have h := ps_ift hc h
        obtain rfl := Option.some.inj h
        exact ps_more (ps_sub [0, 1, 2, 3, 4] rfl k)
      · have h := ps_iff hc h
        cases h
    · have h := ps_iff hc h
      refine ps_iconst C (pc := 546) (v := 1) dL_law_546 (by decide) ?_
      refine ps_goto C (pc := 547) 551 dL_law_547 (by decide) ?_
      obtain ⟨q7, hq7, h⟩ := ps_bd h
      refine ps_callVI C Z (pc := 551) (As := [.int (xs (Int32.toNatClampNeg (a4 + (1 : Int32)))), .int (1 : Int32)]) (k0 := 45) (mX5_sum  hq7) (Cn := "PartSumsModel") rfl tw_1022 tw_1023 tw_1024 tw_70 tw_1025 hdX5_sum rfl rfl ⟨by decide, by decide⟩ (by decide) ps_o45 rfl rfl (Nat.le_of_ble_eq_true rfl) dL_law_551 rfl ?_
      refine ps_icmp_eq C (pc := 554) 1364 dL_law_554 (by decide) (fun hc => ?_) (fun hc => ?_)
      · have h := ps_ift hc h
        obtain rfl := Option.some.inj h
        exact ps_more (ps_sub [0, 1, 2, 3, 4] rfl k)
      · have h := ps_iff hc h
        cases h
  · have h := ps_iff hc h
    refine ps_iconst C (pc := 522) (v := 1) dL_law_522 (by decide) ?_
    refine ps_goto C (pc := 523) 527 dL_law_523 (by decide) ?_
    obtain ⟨q8, hq8, h⟩ := ps_bd h
    refine ps_callVI C Z (pc := 527) (As := [.int (xs (Int32.toNatClampNeg (a4 + (1 : Int32)))), .int (1 : Int32)]) (k0 := 0) (mX4_sum  hq8) (Cn := "PartSums") rfl tw_478 tw_479 tw_480 tw_65 tw_481 hdX4_sum rfl rfl ⟨by decide, by decide⟩ (by decide) ps_o0 rfl rfl (Nat.le_of_ble_eq_true rfl) dL_law_527 rfl ?_
    refine ps_aload_n C (pc := 530) dL_law_530 2 rfl ?_
    refine ps_aload_n C (pc := 531) dL_law_531 0 rfl ?_
    refine ps_iload C (pc := 532) dL_law_532 4 rfl ?_
    refine ps_iconst C (pc := 534) (v := 1) dL_law_534 (by decide) ?_
    refine ps_iadd C (pc := 535) dL_law_535 ?_
    obtain ⟨hi9, h⟩ := ps_ck_s h
    refine ps_sld C (pc := 536) X hi9 dL_law_536 ?_
    refine ps_aload_n C (pc := 537) dL_law_537 0 rfl ?_
    refine ps_iload C (pc := 538) dL_law_538 4 rfl ?_
    refine ps_iconst C (pc := 540) (v := 2) dL_law_540 (by decide) ?_
    refine ps_iadd C (pc := 541) dL_law_541 ?_
    obtain ⟨hi10, h⟩ := ps_ck_s h
    refine ps_sld C (pc := 542) X hi10 dL_law_542 ?_
    refine ps_if_eq C (pc := 543) 550 dL_law_543 (by decide) (fun hc => ?_) (fun hc => ?_)
    · have h := ps_ift hc h
      refine ps_iconst C (pc := 550) (v := 0) dL_law_550 (by decide) ?_
      obtain ⟨q11, hq11, h⟩ := ps_bd h
      refine ps_callVI C Z (pc := 551) (As := [.int (xs (Int32.toNatClampNeg (a4 + (1 : Int32)))), .int (0 : Int32)]) (k0 := 45) (mX5_sum  hq11) (Cn := "PartSumsModel") rfl tw_1022 tw_1023 tw_1024 tw_70 tw_1025 hdX5_sum rfl rfl ⟨by decide, by decide⟩ (by decide) ps_o45 rfl rfl (Nat.le_of_ble_eq_true rfl) dL_law_551 rfl ?_
      refine ps_icmp_eq C (pc := 554) 1364 dL_law_554 (by decide) (fun hc => ?_) (fun hc => ?_)
      · have h := ps_ift hc h
        obtain rfl := Option.some.inj h
        exact ps_more (ps_sub [0, 1, 2, 3, 4] rfl k)
      · have h := ps_iff hc h
        cases h
    · have h := ps_iff hc h
      refine ps_iconst C (pc := 546) (v := 1) dL_law_546 (by decide) ?_
      refine ps_goto C (pc := 547) 551 dL_law_547 (by decide) ?_
      obtain ⟨q12, hq12, h⟩ := ps_bd h
      refine ps_callVI C Z (pc := 551) (As := [.int (xs (Int32.toNatClampNeg (a4 + (1 : Int32)))), .int (1 : Int32)]) (k0 := 45) (mX5_sum  hq12) (Cn := "PartSumsModel") rfl tw_1022 tw_1023 tw_1024 tw_70 tw_1025 hdX5_sum rfl rfl ⟨by decide, by decide⟩ (by decide) ps_o45 rfl rfl (Nat.le_of_ble_eq_true rfl) dL_law_551 rfl ?_
      refine ps_icmp_eq C (pc := 554) 1364 dL_law_554 (by decide) (fun hc => ?_) (fun hc => ?_)
      · have h := ps_ift hc h
        obtain rfl := Option.some.inj h
        exact ps_more (ps_sub [0, 1, 2, 3, 4] rfl k)
      · have h := ps_iff hc h
        cases h
def fL_c11 (xs : Nat → Int32) (L : Nat) (a4 : Int32) (σ : ps_S) : Option ps_S :=
  (ps_ck (a4 + (1 : Int32)) L ((ps_ck (a4 + (2 : Int32)) L ((if (xs (Int32.toNatClampNeg (a4 + (2 : Int32)))) = 0 then ((fX4_back (xs (Int32.toNatClampNeg (a4 + (1 : Int32)))) (0 : Int32) σ).bind fun q3 =>
  (ps_ck (a4 + (1 : Int32)) L ((ps_ck (a4 + (2 : Int32)) L ((if (xs (Int32.toNatClampNeg (a4 + (2 : Int32)))) = 0 then ((fX5_back (xs (Int32.toNatClampNeg (a4 + (1 : Int32)))) (0 : Int32) q3.2).bind fun q6 =>
  (if q3.1 = q6.1 then some q6.2
  else none))
  else ((fX5_back (xs (Int32.toNatClampNeg (a4 + (1 : Int32)))) (1 : Int32) q3.2).bind fun q7 =>
  (if q3.1 = q7.1 then some q7.2
  else none))))))))
  else ((fX4_back (xs (Int32.toNatClampNeg (a4 + (1 : Int32)))) (1 : Int32) σ).bind fun q8 =>
  (ps_ck (a4 + (1 : Int32)) L ((ps_ck (a4 + (2 : Int32)) L ((if (xs (Int32.toNatClampNeg (a4 + (2 : Int32)))) = 0 then ((fX5_back (xs (Int32.toNatClampNeg (a4 + (1 : Int32)))) (0 : Int32) q8.2).bind fun q11 =>
  (if q8.1 = q11.1 then some q11.2
  else none))
  else ((fX5_back (xs (Int32.toNatClampNeg (a4 + (1 : Int32)))) (1 : Int32) q8.2).bind fun q12 =>
  (if q8.1 = q12.1 then some q12.2
  else none)))))))))))))
set_option maxHeartbeats 4000000 in
set_option maxRecDepth 100000 in
theorem tL_c11 {z : ps_X} (C : ps_C z cL_law 7 "PartSumsLaw") (Z : ps_Z z 19 604) (ZM : ps_Z (z_more z) 19 604) {b L : Nat} {xs : Nat → Int32} (X : ps_XS z b L xs) {a4 : Int32} {σ r : ps_S} (h : fL_c11 xs L a4 σ = some r) (k : ps_at (z_more z) 7 1364 [(0, .ref b), (1, .ref (z_ad z 0)), (2, .ref (z_ad z 45)), (3, .ref (z_ad z 59)), (4, .int a4)] [] r) : ps_at z 7 559 [(0, .ref b), (1, .ref (z_ad z 0)), (2, .ref (z_ad z 45)), (3, .ref (z_ad z 59)), (4, .int a4)] [] σ := by
  unfold fL_c11 at h
  refine ps_aload_n C (pc := 559) dL_law_559 1 rfl ?_
  refine ps_aload_n C (pc := 560) dL_law_560 0 rfl ?_
  refine ps_iload C (pc := 561) dL_law_561 4 rfl ?_
  refine ps_iconst C (pc := 563) (v := 1) dL_law_563 (by decide) ?_
  refine ps_iadd C (pc := 564) dL_law_564 ?_
  obtain ⟨hi1, h⟩ := ps_ck_s h
  refine ps_sld C (pc := 565) X hi1 dL_law_565 ?_
  refine ps_aload_n C (pc := 566) dL_law_566 0 rfl ?_
  refine ps_iload C (pc := 567) dL_law_567 4 rfl ?_
  refine ps_iconst C (pc := 569) (v := 2) dL_law_569 (by decide) ?_
  refine ps_iadd C (pc := 570) dL_law_570 ?_
  obtain ⟨hi2, h⟩ := ps_ck_s h
  refine ps_sld C (pc := 571) X hi2 dL_law_571 ?_
  refine ps_if_eq C (pc := 572) 579 dL_law_572 (by decide) (fun hc => ?_) (fun hc => ?_)
  · have h := ps_ift hc h
    refine ps_iconst C (pc := 579) (v := 0) dL_law_579 (by decide) ?_
    obtain ⟨q3, hq3, h⟩ := ps_bd h
    refine ps_callVI C Z (pc := 580) (As := [.int (xs (Int32.toNatClampNeg (a4 + (1 : Int32)))), .int (0 : Int32)]) (k0 := 0) (mX4_back  hq3) (Cn := "PartSums") rfl tw_493 tw_494 tw_495 tw_65 tw_496 hdX4_back rfl rfl ⟨by decide, by decide⟩ (by decide) ps_o0 rfl rfl (Nat.le_of_ble_eq_true rfl) dL_law_580 rfl ?_
    refine ps_aload_n C (pc := 583) dL_law_583 2 rfl ?_
    refine ps_aload_n C (pc := 584) dL_law_584 0 rfl ?_
    refine ps_iload C (pc := 585) dL_law_585 4 rfl ?_
    refine ps_iconst C (pc := 587) (v := 1) dL_law_587 (by decide) ?_
    refine ps_iadd C (pc := 588) dL_law_588 ?_
    obtain ⟨hi4, h⟩ := ps_ck_s h
    refine ps_sld C (pc := 589) X hi4 dL_law_589 ?_
    refine ps_aload_n C (pc := 590) dL_law_590 0 rfl ?_
    refine ps_iload C (pc := 591) dL_law_591 4 rfl ?_
    refine ps_iconst C (pc := 593) (v := 2) dL_law_593 (by decide) ?_
    refine ps_iadd C (pc := 594) dL_law_594 ?_
    obtain ⟨hi5, h⟩ := ps_ck_s h
    refine ps_sld C (pc := 595) X hi5 dL_law_595 ?_
    refine ps_if_eq C (pc := 596) 603 dL_law_596 (by decide) (fun hc => ?_) (fun hc => ?_)
    · have h := ps_ift hc h
      refine ps_iconst C (pc := 603) (v := 0) dL_law_603 (by decide) ?_
      obtain ⟨q6, hq6, h⟩ := ps_bd h
      refine ps_callVI C Z (pc := 604) (As := [.int (xs (Int32.toNatClampNeg (a4 + (1 : Int32)))), .int (0 : Int32)]) (k0 := 45) (mX5_back  hq6) (Cn := "PartSumsModel") rfl tw_1034 tw_1035 tw_1036 tw_70 tw_1037 hdX5_back rfl rfl ⟨by decide, by decide⟩ (by decide) ps_o45 rfl rfl (Nat.le_of_ble_eq_true rfl) dL_law_604 rfl ?_
      refine ps_icmp_eq C (pc := 607) 1364 dL_law_607 (by decide) (fun hc => ?_) (fun hc => ?_)
      · have h := ps_ift hc h
        obtain rfl := Option.some.inj h
        exact ps_more (ps_sub [0, 1, 2, 3, 4] rfl k)
      · have h := ps_iff hc h
        cases h
    · have h := ps_iff hc h
      refine ps_iconst C (pc := 599) (v := 1) dL_law_599 (by decide) ?_
      refine ps_goto C (pc := 600) 604 dL_law_600 (by decide) ?_
      obtain ⟨q7, hq7, h⟩ := ps_bd h
      refine ps_callVI C Z (pc := 604) (As := [.int (xs (Int32.toNatClampNeg (a4 + (1 : Int32)))), .int (1 : Int32)]) (k0 := 45) (mX5_back  hq7) (Cn := "PartSumsModel") rfl tw_1034 tw_1035 tw_1036 tw_70 tw_1037 hdX5_back rfl rfl ⟨by decide, by decide⟩ (by decide) ps_o45 rfl rfl (Nat.le_of_ble_eq_true rfl) dL_law_604 rfl ?_
      refine ps_icmp_eq C (pc := 607) 1364 dL_law_607 (by decide) (fun hc => ?_) (fun hc => ?_)
      · have h := ps_ift hc h
        obtain rfl := Option.some.inj h
        exact ps_more (ps_sub [0, 1, 2, 3, 4] rfl k)
      · have h := ps_iff hc h
        cases h
  · have h := ps_iff hc h
    refine ps_iconst C (pc := 575) (v := 1) dL_law_575 (by decide) ?_
    refine ps_goto C (pc := 576) 580 dL_law_576 (by decide) ?_
    obtain ⟨q8, hq8, h⟩ := ps_bd h
    refine ps_callVI C Z (pc := 580) (As := [.int (xs (Int32.toNatClampNeg (a4 + (1 : Int32)))), .int (1 : Int32)]) (k0 := 0) (mX4_back  hq8) (Cn := "PartSums") rfl tw_493 tw_494 tw_495 tw_65 tw_496 hdX4_back rfl rfl ⟨by decide, by decide⟩ (by decide) ps_o0 rfl rfl (Nat.le_of_ble_eq_true rfl) dL_law_580 rfl ?_
    refine ps_aload_n C (pc := 583) dL_law_583 2 rfl ?_
    refine ps_aload_n C (pc := 584) dL_law_584 0 rfl ?_
    refine ps_iload C (pc := 585) dL_law_585 4 rfl ?_
    refine ps_iconst C (pc := 587) (v := 1) dL_law_587 (by decide) ?_
    refine ps_iadd C (pc := 588) dL_law_588 ?_
    obtain ⟨hi9, h⟩ := ps_ck_s h
    refine ps_sld C (pc := 589) X hi9 dL_law_589 ?_
    refine ps_aload_n C (pc := 590) dL_law_590 0 rfl ?_
    refine ps_iload C (pc := 591) dL_law_591 4 rfl ?_
    refine ps_iconst C (pc := 593) (v := 2) dL_law_593 (by decide) ?_
    refine ps_iadd C (pc := 594) dL_law_594 ?_
    obtain ⟨hi10, h⟩ := ps_ck_s h
    refine ps_sld C (pc := 595) X hi10 dL_law_595 ?_
    refine ps_if_eq C (pc := 596) 603 dL_law_596 (by decide) (fun hc => ?_) (fun hc => ?_)
    · have h := ps_ift hc h
      refine ps_iconst C (pc := 603) (v := 0) dL_law_603 (by decide) ?_
      obtain ⟨q11, hq11, h⟩ := ps_bd h
      refine ps_callVI C Z (pc := 604) (As := [.int (xs (Int32.toNatClampNeg (a4 + (1 : Int32)))), .int (0 : Int32)]) (k0 := 45) (mX5_back  hq11) (Cn := "PartSumsModel") rfl tw_1034 tw_1035 tw_1036 tw_70 tw_1037 hdX5_back rfl rfl ⟨by decide, by decide⟩ (by decide) ps_o45 rfl rfl (Nat.le_of_ble_eq_true rfl) dL_law_604 rfl ?_
      refine ps_icmp_eq C (pc := 607) 1364 dL_law_607 (by decide) (fun hc => ?_) (fun hc => ?_)
      · have h := ps_ift hc h
        obtain rfl := Option.some.inj h
        exact ps_more (ps_sub [0, 1, 2, 3, 4] rfl k)
      · have h := ps_iff hc h
        cases h
    · have h := ps_iff hc h
      refine ps_iconst C (pc := 599) (v := 1) dL_law_599 (by decide) ?_
      refine ps_goto C (pc := 600) 604 dL_law_600 (by decide) ?_
      obtain ⟨q12, hq12, h⟩ := ps_bd h
      refine ps_callVI C Z (pc := 604) (As := [.int (xs (Int32.toNatClampNeg (a4 + (1 : Int32)))), .int (1 : Int32)]) (k0 := 45) (mX5_back  hq12) (Cn := "PartSumsModel") rfl tw_1034 tw_1035 tw_1036 tw_70 tw_1037 hdX5_back rfl rfl ⟨by decide, by decide⟩ (by decide) ps_o45 rfl rfl (Nat.le_of_ble_eq_true rfl) dL_law_604 rfl ?_
      refine ps_icmp_eq C (pc := 607) 1364 dL_law_607 (by decide) (fun hc => ?_) (fun hc => ?_)
      · have h := ps_ift hc h
        obtain rfl := Option.some.inj h
        exact ps_more (ps_sub [0, 1, 2, 3, 4] rfl k)
      · have h := ps_iff hc h
        cases h
def fL_c12 (xs : Nat → Int32) (L : Nat) (a4 : Int32) (σ : ps_S) : Option ps_S :=
  (ps_ck (a4 + (1 : Int32)) L ((ps_ck (a4 + (2 : Int32)) L ((ps_ck (a4 + (3 : Int32)) L ((ps_ck (a4 + (4 : Int32)) L (((fX4_times (xs (Int32.toNatClampNeg (a4 + (1 : Int32)))) (xs (Int32.toNatClampNeg (a4 + (2 : Int32)))) (xs (Int32.toNatClampNeg (a4 + (3 : Int32)))) (xs (Int32.toNatClampNeg (a4 + (4 : Int32)))) σ).bind fun q5 =>
  (ps_ck (a4 + (1 : Int32)) L ((ps_ck (a4 + (2 : Int32)) L ((ps_ck (a4 + (3 : Int32)) L ((ps_ck (a4 + (4 : Int32)) L (((fX5_times (xs (Int32.toNatClampNeg (a4 + (1 : Int32)))) (xs (Int32.toNatClampNeg (a4 + (2 : Int32)))) (xs (Int32.toNatClampNeg (a4 + (3 : Int32)))) (xs (Int32.toNatClampNeg (a4 + (4 : Int32)))) q5.2).bind fun q10 =>
  (if q5.1 = q10.1 then some q10.2
  else none)))))))))))))))))))
set_option maxHeartbeats 4000000 in
set_option maxRecDepth 100000 in
theorem tL_c12 {z : ps_X} (C : ps_C z cL_law 7 "PartSumsLaw") (Z : ps_Z z 19 604) (ZM : ps_Z (z_more z) 19 604) {b L : Nat} {xs : Nat → Int32} (X : ps_XS z b L xs) {a4 : Int32} {σ r : ps_S} (h : fL_c12 xs L a4 σ = some r) (k : ps_at (z_more z) 7 1364 [(0, .ref b), (1, .ref (z_ad z 0)), (2, .ref (z_ad z 45)), (3, .ref (z_ad z 59)), (4, .int a4)] [] r) : ps_at z 7 612 [(0, .ref b), (1, .ref (z_ad z 0)), (2, .ref (z_ad z 45)), (3, .ref (z_ad z 59)), (4, .int a4)] [] σ := by
  unfold fL_c12 at h
  refine ps_aload_n C (pc := 612) dL_law_612 1 rfl ?_
  refine ps_aload_n C (pc := 613) dL_law_613 0 rfl ?_
  refine ps_iload C (pc := 614) dL_law_614 4 rfl ?_
  refine ps_iconst C (pc := 616) (v := 1) dL_law_616 (by decide) ?_
  refine ps_iadd C (pc := 617) dL_law_617 ?_
  obtain ⟨hi1, h⟩ := ps_ck_s h
  refine ps_sld C (pc := 618) X hi1 dL_law_618 ?_
  refine ps_aload_n C (pc := 619) dL_law_619 0 rfl ?_
  refine ps_iload C (pc := 620) dL_law_620 4 rfl ?_
  refine ps_iconst C (pc := 622) (v := 2) dL_law_622 (by decide) ?_
  refine ps_iadd C (pc := 623) dL_law_623 ?_
  obtain ⟨hi2, h⟩ := ps_ck_s h
  refine ps_sld C (pc := 624) X hi2 dL_law_624 ?_
  refine ps_aload_n C (pc := 625) dL_law_625 0 rfl ?_
  refine ps_iload C (pc := 626) dL_law_626 4 rfl ?_
  refine ps_iconst C (pc := 628) (v := 3) dL_law_628 (by decide) ?_
  refine ps_iadd C (pc := 629) dL_law_629 ?_
  obtain ⟨hi3, h⟩ := ps_ck_s h
  refine ps_sld C (pc := 630) X hi3 dL_law_630 ?_
  refine ps_aload_n C (pc := 631) dL_law_631 0 rfl ?_
  refine ps_iload C (pc := 632) dL_law_632 4 rfl ?_
  refine ps_iconst C (pc := 634) (v := 4) dL_law_634 (by decide) ?_
  refine ps_iadd C (pc := 635) dL_law_635 ?_
  obtain ⟨hi4, h⟩ := ps_ck_s h
  refine ps_sld C (pc := 636) X hi4 dL_law_636 ?_
  obtain ⟨q5, hq5, h⟩ := ps_bd h
  refine ps_callVI C Z (pc := 637) (As := [.int (xs (Int32.toNatClampNeg (a4 + (1 : Int32)))), .int (xs (Int32.toNatClampNeg (a4 + (2 : Int32)))), .int (xs (Int32.toNatClampNeg (a4 + (3 : Int32)))), .int (xs (Int32.toNatClampNeg (a4 + (4 : Int32))))]) (k0 := 0) (mX4_times  hq5) (Cn := "PartSums") rfl tw_497 tw_498 tw_499 tw_65 tw_500 hdX4_times rfl rfl ⟨by decide, by decide⟩ (by decide) ps_o0 rfl rfl (Nat.le_of_ble_eq_true rfl) dL_law_637 rfl ?_
  refine ps_aload_n C (pc := 640) dL_law_640 2 rfl ?_
  refine ps_aload_n C (pc := 641) dL_law_641 0 rfl ?_
  refine ps_iload C (pc := 642) dL_law_642 4 rfl ?_
  refine ps_iconst C (pc := 644) (v := 1) dL_law_644 (by decide) ?_
  refine ps_iadd C (pc := 645) dL_law_645 ?_
  obtain ⟨hi6, h⟩ := ps_ck_s h
  refine ps_sld C (pc := 646) X hi6 dL_law_646 ?_
  refine ps_aload_n C (pc := 647) dL_law_647 0 rfl ?_
  refine ps_iload C (pc := 648) dL_law_648 4 rfl ?_
  refine ps_iconst C (pc := 650) (v := 2) dL_law_650 (by decide) ?_
  refine ps_iadd C (pc := 651) dL_law_651 ?_
  obtain ⟨hi7, h⟩ := ps_ck_s h
  refine ps_sld C (pc := 652) X hi7 dL_law_652 ?_
  refine ps_aload_n C (pc := 653) dL_law_653 0 rfl ?_
  refine ps_iload C (pc := 654) dL_law_654 4 rfl ?_
  refine ps_iconst C (pc := 656) (v := 3) dL_law_656 (by decide) ?_
  refine ps_iadd C (pc := 657) dL_law_657 ?_
  obtain ⟨hi8, h⟩ := ps_ck_s h
  refine ps_sld C (pc := 658) X hi8 dL_law_658 ?_
  refine ps_aload_n C (pc := 659) dL_law_659 0 rfl ?_
  refine ps_iload C (pc := 660) dL_law_660 4 rfl ?_
  refine ps_iconst C (pc := 662) (v := 4) dL_law_662 (by decide) ?_
  refine ps_iadd C (pc := 663) dL_law_663 ?_
  obtain ⟨hi9, h⟩ := ps_ck_s h
  refine ps_sld C (pc := 664) X hi9 dL_law_664 ?_
  obtain ⟨q10, hq10, h⟩ := ps_bd h
  refine ps_callVI C Z (pc := 665) (As := [.int (xs (Int32.toNatClampNeg (a4 + (1 : Int32)))), .int (xs (Int32.toNatClampNeg (a4 + (2 : Int32)))), .int (xs (Int32.toNatClampNeg (a4 + (3 : Int32)))), .int (xs (Int32.toNatClampNeg (a4 + (4 : Int32))))]) (k0 := 45) (mX5_times  hq10) (Cn := "PartSumsModel") rfl tw_1038 tw_1039 tw_1040 tw_70 tw_1041 hdX5_times rfl rfl ⟨by decide, by decide⟩ (by decide) ps_o45 rfl rfl (Nat.le_of_ble_eq_true rfl) dL_law_665 rfl ?_
  refine ps_icmp_eq C (pc := 668) 1364 dL_law_668 (by decide) (fun hc => ?_) (fun hc => ?_)
  · have h := ps_ift hc h
    obtain rfl := Option.some.inj h
    exact ps_more (ps_sub [0, 1, 2, 3, 4] rfl k)
  · have h := ps_iff hc h
    cases h
def fL_c13 (xs : Nat → Int32) (L : Nat) (a4 : Int32) (σ : ps_S) : Option ps_S :=
  (ps_ck (a4 + (1 : Int32)) L ((ps_ck (a4 + (2 : Int32)) L ((ps_ck (a4 + (3 : Int32)) L (((fX4_power (xs (Int32.toNatClampNeg (a4 + (1 : Int32)))) (xs (Int32.toNatClampNeg (a4 + (2 : Int32)))) (xs (Int32.toNatClampNeg (a4 + (3 : Int32)))) σ).bind fun q4 =>
  (ps_ck (a4 + (1 : Int32)) L ((ps_ck (a4 + (2 : Int32)) L ((ps_ck (a4 + (3 : Int32)) L (((fX5_power (xs (Int32.toNatClampNeg (a4 + (1 : Int32)))) (xs (Int32.toNatClampNeg (a4 + (2 : Int32)))) (xs (Int32.toNatClampNeg (a4 + (3 : Int32)))) q4.2).bind fun q8 =>
  (if q4.1 = q8.1 then some q8.2
  else none)))))))))))))))
set_option maxHeartbeats 4000000 in
set_option maxRecDepth 100000 in
theorem tL_c13 {z : ps_X} (C : ps_C z cL_law 7 "PartSumsLaw") (Z : ps_Z z 19 604) (ZM : ps_Z (z_more z) 19 604) {b L : Nat} {xs : Nat → Int32} (X : ps_XS z b L xs) {a4 : Int32} {σ r : ps_S} (h : fL_c13 xs L a4 σ = some r) (k : ps_at (z_more z) 7 1364 [(0, .ref b), (1, .ref (z_ad z 0)), (2, .ref (z_ad z 45)), (3, .ref (z_ad z 59)), (4, .int a4)] [] r) : ps_at z 7 673 [(0, .ref b), (1, .ref (z_ad z 0)), (2, .ref (z_ad z 45)), (3, .ref (z_ad z 59)), (4, .int a4)] [] σ := by
  unfold fL_c13 at h
  refine ps_aload_n C (pc := 673) dL_law_673 1 rfl ?_
  refine ps_aload_n C (pc := 674) dL_law_674 0 rfl ?_
  refine ps_iload C (pc := 675) dL_law_675 4 rfl ?_
  refine ps_iconst C (pc := 677) (v := 1) dL_law_677 (by decide) ?_
  refine ps_iadd C (pc := 678) dL_law_678 ?_
  obtain ⟨hi1, h⟩ := ps_ck_s h
  refine ps_sld C (pc := 679) X hi1 dL_law_679 ?_
  refine ps_aload_n C (pc := 680) dL_law_680 0 rfl ?_
  refine ps_iload C (pc := 681) dL_law_681 4 rfl ?_
  refine ps_iconst C (pc := 683) (v := 2) dL_law_683 (by decide) ?_
  refine ps_iadd C (pc := 684) dL_law_684 ?_
  obtain ⟨hi2, h⟩ := ps_ck_s h
  refine ps_sld C (pc := 685) X hi2 dL_law_685 ?_
  refine ps_aload_n C (pc := 686) dL_law_686 0 rfl ?_
  refine ps_iload C (pc := 687) dL_law_687 4 rfl ?_
  refine ps_iconst C (pc := 689) (v := 3) dL_law_689 (by decide) ?_
  refine ps_iadd C (pc := 690) dL_law_690 ?_
  obtain ⟨hi3, h⟩ := ps_ck_s h
  refine ps_sld C (pc := 691) X hi3 dL_law_691 ?_
  obtain ⟨q4, hq4, h⟩ := ps_bd h
  refine ps_callVI C Z (pc := 692) (As := [.int (xs (Int32.toNatClampNeg (a4 + (1 : Int32)))), .int (xs (Int32.toNatClampNeg (a4 + (2 : Int32)))), .int (xs (Int32.toNatClampNeg (a4 + (3 : Int32))))]) (k0 := 0) (mX4_power  hq4) (Cn := "PartSums") rfl tw_512 tw_513 tw_514 tw_65 tw_515 hdX4_power rfl rfl ⟨by decide, by decide⟩ (by decide) ps_o0 rfl rfl (Nat.le_of_ble_eq_true rfl) dL_law_692 rfl ?_
  refine ps_aload_n C (pc := 695) dL_law_695 2 rfl ?_
  refine ps_aload_n C (pc := 696) dL_law_696 0 rfl ?_
  refine ps_iload C (pc := 697) dL_law_697 4 rfl ?_
  refine ps_iconst C (pc := 699) (v := 1) dL_law_699 (by decide) ?_
  refine ps_iadd C (pc := 700) dL_law_700 ?_
  obtain ⟨hi5, h⟩ := ps_ck_s h
  refine ps_sld C (pc := 701) X hi5 dL_law_701 ?_
  refine ps_aload_n C (pc := 702) dL_law_702 0 rfl ?_
  refine ps_iload C (pc := 703) dL_law_703 4 rfl ?_
  refine ps_iconst C (pc := 705) (v := 2) dL_law_705 (by decide) ?_
  refine ps_iadd C (pc := 706) dL_law_706 ?_
  obtain ⟨hi6, h⟩ := ps_ck_s h
  refine ps_sld C (pc := 707) X hi6 dL_law_707 ?_
  refine ps_aload_n C (pc := 708) dL_law_708 0 rfl ?_
  refine ps_iload C (pc := 709) dL_law_709 4 rfl ?_
  refine ps_iconst C (pc := 711) (v := 3) dL_law_711 (by decide) ?_
  refine ps_iadd C (pc := 712) dL_law_712 ?_
  obtain ⟨hi7, h⟩ := ps_ck_s h
  refine ps_sld C (pc := 713) X hi7 dL_law_713 ?_
  obtain ⟨q8, hq8, h⟩ := ps_bd h
  refine ps_callVI C Z (pc := 714) (As := [.int (xs (Int32.toNatClampNeg (a4 + (1 : Int32)))), .int (xs (Int32.toNatClampNeg (a4 + (2 : Int32)))), .int (xs (Int32.toNatClampNeg (a4 + (3 : Int32))))]) (k0 := 45) (mX5_power  hq8) (Cn := "PartSumsModel") rfl tw_1049 tw_1050 tw_1051 tw_70 tw_1052 hdX5_power rfl rfl ⟨by decide, by decide⟩ (by decide) ps_o45 rfl rfl (Nat.le_of_ble_eq_true rfl) dL_law_714 rfl ?_
  refine ps_icmp_eq C (pc := 717) 1364 dL_law_717 (by decide) (fun hc => ?_) (fun hc => ?_)
  · have h := ps_ift hc h
    obtain rfl := Option.some.inj h
    exact ps_more (ps_sub [0, 1, 2, 3, 4] rfl k)
  · have h := ps_iff hc h
    cases h
def fL_c14 (xs : Nat → Int32) (L : Nat) (a4 : Int32) (σ : ps_S) : Option ps_S :=
  (ps_ck (a4 + (1 : Int32)) L ((ps_ck (a4 + (2 : Int32)) L (((fX4_inverse (xs (Int32.toNatClampNeg (a4 + (1 : Int32)))) (xs (Int32.toNatClampNeg (a4 + (2 : Int32)))) σ).bind fun q3 =>
  (ps_ck (a4 + (1 : Int32)) L ((ps_ck (a4 + (2 : Int32)) L (((fX5_inverse (xs (Int32.toNatClampNeg (a4 + (1 : Int32)))) (xs (Int32.toNatClampNeg (a4 + (2 : Int32)))) q3.2).bind fun q6 =>
  (if q3.1 = q6.1 then some q6.2
  else none)))))))))))
set_option maxHeartbeats 4000000 in
set_option maxRecDepth 100000 in
theorem tL_c14 {z : ps_X} (C : ps_C z cL_law 7 "PartSumsLaw") (Z : ps_Z z 19 604) (ZM : ps_Z (z_more z) 19 604) {b L : Nat} {xs : Nat → Int32} (X : ps_XS z b L xs) {a4 : Int32} {σ r : ps_S} (h : fL_c14 xs L a4 σ = some r) (k : ps_at (z_more z) 7 1364 [(0, .ref b), (1, .ref (z_ad z 0)), (2, .ref (z_ad z 45)), (3, .ref (z_ad z 59)), (4, .int a4)] [] r) : ps_at z 7 722 [(0, .ref b), (1, .ref (z_ad z 0)), (2, .ref (z_ad z 45)), (3, .ref (z_ad z 59)), (4, .int a4)] [] σ := by
  unfold fL_c14 at h
  refine ps_aload_n C (pc := 722) dL_law_722 1 rfl ?_
  refine ps_aload_n C (pc := 723) dL_law_723 0 rfl ?_
  refine ps_iload C (pc := 724) dL_law_724 4 rfl ?_
  refine ps_iconst C (pc := 726) (v := 1) dL_law_726 (by decide) ?_
  refine ps_iadd C (pc := 727) dL_law_727 ?_
  obtain ⟨hi1, h⟩ := ps_ck_s h
  refine ps_sld C (pc := 728) X hi1 dL_law_728 ?_
  refine ps_aload_n C (pc := 729) dL_law_729 0 rfl ?_
  refine ps_iload C (pc := 730) dL_law_730 4 rfl ?_
  refine ps_iconst C (pc := 732) (v := 2) dL_law_732 (by decide) ?_
  refine ps_iadd C (pc := 733) dL_law_733 ?_
  obtain ⟨hi2, h⟩ := ps_ck_s h
  refine ps_sld C (pc := 734) X hi2 dL_law_734 ?_
  obtain ⟨q3, hq3, h⟩ := ps_bd h
  refine ps_callVI C Z (pc := 735) (As := [.int (xs (Int32.toNatClampNeg (a4 + (1 : Int32)))), .int (xs (Int32.toNatClampNeg (a4 + (2 : Int32))))]) (k0 := 0) (mX4_inverse  hq3) (Cn := "PartSums") rfl tw_541 tw_542 tw_543 tw_65 tw_544 hdX4_inverse rfl rfl ⟨by decide, by decide⟩ (by decide) ps_o0 rfl rfl (Nat.le_of_ble_eq_true rfl) dL_law_735 rfl ?_
  refine ps_aload_n C (pc := 738) dL_law_738 2 rfl ?_
  refine ps_aload_n C (pc := 739) dL_law_739 0 rfl ?_
  refine ps_iload C (pc := 740) dL_law_740 4 rfl ?_
  refine ps_iconst C (pc := 742) (v := 1) dL_law_742 (by decide) ?_
  refine ps_iadd C (pc := 743) dL_law_743 ?_
  obtain ⟨hi4, h⟩ := ps_ck_s h
  refine ps_sld C (pc := 744) X hi4 dL_law_744 ?_
  refine ps_aload_n C (pc := 745) dL_law_745 0 rfl ?_
  refine ps_iload C (pc := 746) dL_law_746 4 rfl ?_
  refine ps_iconst C (pc := 748) (v := 2) dL_law_748 (by decide) ?_
  refine ps_iadd C (pc := 749) dL_law_749 ?_
  obtain ⟨hi5, h⟩ := ps_ck_s h
  refine ps_sld C (pc := 750) X hi5 dL_law_750 ?_
  obtain ⟨q6, hq6, h⟩ := ps_bd h
  refine ps_callVI C Z (pc := 751) (As := [.int (xs (Int32.toNatClampNeg (a4 + (1 : Int32)))), .int (xs (Int32.toNatClampNeg (a4 + (2 : Int32))))]) (k0 := 45) (mX5_inverse  hq6) (Cn := "PartSumsModel") rfl tw_1061 tw_1062 tw_1063 tw_70 tw_1064 hdX5_inverse rfl rfl ⟨by decide, by decide⟩ (by decide) ps_o45 rfl rfl (Nat.le_of_ble_eq_true rfl) dL_law_751 rfl ?_
  refine ps_icmp_eq C (pc := 754) 1364 dL_law_754 (by decide) (fun hc => ?_) (fun hc => ?_)
  · have h := ps_ift hc h
    obtain rfl := Option.some.inj h
    exact ps_more (ps_sub [0, 1, 2, 3, 4] rfl k)
  · have h := ps_iff hc h
    cases h
def fL_c15 (xs : Nat → Int32) (L : Nat) (a4 : Int32) (σ : ps_S) : Option ps_S :=
  (ps_ck (a4 + (1 : Int32)) L ((ps_ck (a4 + (2 : Int32)) L (((fX4_allWays (xs (Int32.toNatClampNeg (a4 + (1 : Int32)))) (xs (Int32.toNatClampNeg (a4 + (2 : Int32)))) σ).bind fun q3 =>
  (ps_ck (a4 + (1 : Int32)) L ((ps_ck (a4 + (2 : Int32)) L (((fX5_allWays (xs (Int32.toNatClampNeg (a4 + (1 : Int32)))) (xs (Int32.toNatClampNeg (a4 + (2 : Int32)))) q3.2).bind fun q6 =>
  (if q3.1 = q6.1 then some q6.2
  else none)))))))))))
set_option maxHeartbeats 4000000 in
set_option maxRecDepth 100000 in
theorem tL_c15 {z : ps_X} (C : ps_C z cL_law 7 "PartSumsLaw") (Z : ps_Z z 19 604) (ZM : ps_Z (z_more z) 19 604) {b L : Nat} {xs : Nat → Int32} (X : ps_XS z b L xs) {a4 : Int32} {σ r : ps_S} (h : fL_c15 xs L a4 σ = some r) (k : ps_at (z_more z) 7 1364 [(0, .ref b), (1, .ref (z_ad z 0)), (2, .ref (z_ad z 45)), (3, .ref (z_ad z 59)), (4, .int a4)] [] r) : ps_at z 7 759 [(0, .ref b), (1, .ref (z_ad z 0)), (2, .ref (z_ad z 45)), (3, .ref (z_ad z 59)), (4, .int a4)] [] σ := by
  unfold fL_c15 at h
  refine ps_aload_n C (pc := 759) dL_law_759 1 rfl ?_
  refine ps_aload_n C (pc := 760) dL_law_760 0 rfl ?_
  refine ps_iload C (pc := 761) dL_law_761 4 rfl ?_
  refine ps_iconst C (pc := 763) (v := 1) dL_law_763 (by decide) ?_
  refine ps_iadd C (pc := 764) dL_law_764 ?_
  obtain ⟨hi1, h⟩ := ps_ck_s h
  refine ps_sld C (pc := 765) X hi1 dL_law_765 ?_
  refine ps_aload_n C (pc := 766) dL_law_766 0 rfl ?_
  refine ps_iload C (pc := 767) dL_law_767 4 rfl ?_
  refine ps_iconst C (pc := 769) (v := 2) dL_law_769 (by decide) ?_
  refine ps_iadd C (pc := 770) dL_law_770 ?_
  obtain ⟨hi2, h⟩ := ps_ck_s h
  refine ps_sld C (pc := 771) X hi2 dL_law_771 ?_
  obtain ⟨q3, hq3, h⟩ := ps_bd h
  refine ps_callVI C Z (pc := 772) (As := [.int (xs (Int32.toNatClampNeg (a4 + (1 : Int32)))), .int (xs (Int32.toNatClampNeg (a4 + (2 : Int32))))]) (k0 := 0) (mX4_allWays  hq3) (Cn := "PartSums") rfl tw_550 tw_551 tw_552 tw_65 tw_553 hdX4_allWays rfl rfl ⟨by decide, by decide⟩ (by decide) ps_o0 rfl rfl (Nat.le_of_ble_eq_true rfl) dL_law_772 rfl ?_
  refine ps_aload_n C (pc := 775) dL_law_775 2 rfl ?_
  refine ps_aload_n C (pc := 776) dL_law_776 0 rfl ?_
  refine ps_iload C (pc := 777) dL_law_777 4 rfl ?_
  refine ps_iconst C (pc := 779) (v := 1) dL_law_779 (by decide) ?_
  refine ps_iadd C (pc := 780) dL_law_780 ?_
  obtain ⟨hi4, h⟩ := ps_ck_s h
  refine ps_sld C (pc := 781) X hi4 dL_law_781 ?_
  refine ps_aload_n C (pc := 782) dL_law_782 0 rfl ?_
  refine ps_iload C (pc := 783) dL_law_783 4 rfl ?_
  refine ps_iconst C (pc := 785) (v := 2) dL_law_785 (by decide) ?_
  refine ps_iadd C (pc := 786) dL_law_786 ?_
  obtain ⟨hi5, h⟩ := ps_ck_s h
  refine ps_sld C (pc := 787) X hi5 dL_law_787 ?_
  obtain ⟨q6, hq6, h⟩ := ps_bd h
  refine ps_callVI C Z (pc := 788) (As := [.int (xs (Int32.toNatClampNeg (a4 + (1 : Int32)))), .int (xs (Int32.toNatClampNeg (a4 + (2 : Int32))))]) (k0 := 45) (mX5_allWays  hq6) (Cn := "PartSumsModel") rfl tw_1069 tw_1070 tw_1071 tw_70 tw_1072 hdX5_allWays rfl rfl ⟨by decide, by decide⟩ (by decide) ps_o45 rfl rfl (Nat.le_of_ble_eq_true rfl) dL_law_788 rfl ?_
  refine ps_icmp_eq C (pc := 791) 1364 dL_law_791 (by decide) (fun hc => ?_) (fun hc => ?_)
  · have h := ps_ift hc h
    obtain rfl := Option.some.inj h
    exact ps_more (ps_sub [0, 1, 2, 3, 4] rfl k)
  · have h := ps_iff hc h
    cases h
def fL_c16 (xs : Nat → Int32) (L : Nat) (a4 : Int32) (σ : ps_S) : Option ps_S :=
  (ps_ck (a4 + (1 : Int32)) L ((ps_ck (a4 + (2 : Int32)) L (((fX4_roots (xs (Int32.toNatClampNeg (a4 + (1 : Int32)))) (xs (Int32.toNatClampNeg (a4 + (2 : Int32)))) σ).bind fun q3 =>
  (ps_ck (a4 + (1 : Int32)) L ((ps_ck (a4 + (2 : Int32)) L (((fX5_roots (xs (Int32.toNatClampNeg (a4 + (1 : Int32)))) (xs (Int32.toNatClampNeg (a4 + (2 : Int32)))) q3.2).bind fun q6 =>
  (if q3.1 = q6.1 then some q6.2
  else none)))))))))))
set_option maxHeartbeats 4000000 in
set_option maxRecDepth 100000 in
theorem tL_c16 {z : ps_X} (C : ps_C z cL_law 7 "PartSumsLaw") (Z : ps_Z z 19 604) (ZM : ps_Z (z_more z) 19 604) {b L : Nat} {xs : Nat → Int32} (X : ps_XS z b L xs) {a4 : Int32} {σ r : ps_S} (h : fL_c16 xs L a4 σ = some r) (k : ps_at (z_more z) 7 1364 [(0, .ref b), (1, .ref (z_ad z 0)), (2, .ref (z_ad z 45)), (3, .ref (z_ad z 59)), (4, .int a4)] [] r) : ps_at z 7 796 [(0, .ref b), (1, .ref (z_ad z 0)), (2, .ref (z_ad z 45)), (3, .ref (z_ad z 59)), (4, .int a4)] [] σ := by
  unfold fL_c16 at h
  refine ps_aload_n C (pc := 796) dL_law_796 1 rfl ?_
  refine ps_aload_n C (pc := 797) dL_law_797 0 rfl ?_
  refine ps_iload C (pc := 798) dL_law_798 4 rfl ?_
  refine ps_iconst C (pc := 800) (v := 1) dL_law_800 (by decide) ?_
  refine ps_iadd C (pc := 801) dL_law_801 ?_
  obtain ⟨hi1, h⟩ := ps_ck_s h
  refine ps_sld C (pc := 802) X hi1 dL_law_802 ?_
  refine ps_aload_n C (pc := 803) dL_law_803 0 rfl ?_
  refine ps_iload C (pc := 804) dL_law_804 4 rfl ?_
  refine ps_iconst C (pc := 806) (v := 2) dL_law_806 (by decide) ?_
  refine ps_iadd C (pc := 807) dL_law_807 ?_
  obtain ⟨hi2, h⟩ := ps_ck_s h
  refine ps_sld C (pc := 808) X hi2 dL_law_808 ?_
  obtain ⟨q3, hq3, h⟩ := ps_bd h
  refine ps_callVI C Z (pc := 809) (As := [.int (xs (Int32.toNatClampNeg (a4 + (1 : Int32)))), .int (xs (Int32.toNatClampNeg (a4 + (2 : Int32))))]) (k0 := 0) (mX4_roots  hq3) (Cn := "PartSums") rfl tw_558 tw_559 tw_560 tw_65 tw_561 hdX4_roots rfl rfl ⟨by decide, by decide⟩ (by decide) ps_o0 rfl rfl (Nat.le_of_ble_eq_true rfl) dL_law_809 rfl ?_
  refine ps_aload_n C (pc := 812) dL_law_812 2 rfl ?_
  refine ps_aload_n C (pc := 813) dL_law_813 0 rfl ?_
  refine ps_iload C (pc := 814) dL_law_814 4 rfl ?_
  refine ps_iconst C (pc := 816) (v := 1) dL_law_816 (by decide) ?_
  refine ps_iadd C (pc := 817) dL_law_817 ?_
  obtain ⟨hi4, h⟩ := ps_ck_s h
  refine ps_sld C (pc := 818) X hi4 dL_law_818 ?_
  refine ps_aload_n C (pc := 819) dL_law_819 0 rfl ?_
  refine ps_iload C (pc := 820) dL_law_820 4 rfl ?_
  refine ps_iconst C (pc := 822) (v := 2) dL_law_822 (by decide) ?_
  refine ps_iadd C (pc := 823) dL_law_823 ?_
  obtain ⟨hi5, h⟩ := ps_ck_s h
  refine ps_sld C (pc := 824) X hi5 dL_law_824 ?_
  obtain ⟨q6, hq6, h⟩ := ps_bd h
  refine ps_callVI C Z (pc := 825) (As := [.int (xs (Int32.toNatClampNeg (a4 + (1 : Int32)))), .int (xs (Int32.toNatClampNeg (a4 + (2 : Int32))))]) (k0 := 45) (mX5_roots  hq6) (Cn := "PartSumsModel") rfl tw_1073 tw_1074 tw_1075 tw_70 tw_1076 hdX5_roots rfl rfl ⟨by decide, by decide⟩ (by decide) ps_o45 rfl rfl (Nat.le_of_ble_eq_true rfl) dL_law_825 rfl ?_
  refine ps_icmp_eq C (pc := 828) 1364 dL_law_828 (by decide) (fun hc => ?_) (fun hc => ?_)
  · have h := ps_ift hc h
    obtain rfl := Option.some.inj h
    exact ps_more (ps_sub [0, 1, 2, 3, 4] rfl k)
  · have h := ps_iff hc h
    cases h
def fL_c17 (xs : Nat → Int32) (L : Nat) (a4 : Int32) (σ : ps_S) : Option ps_S :=
  (ps_ck (a4 + (1 : Int32)) L ((ps_ck (a4 + (2 : Int32)) L (((fX4_covers (xs (Int32.toNatClampNeg (a4 + (1 : Int32)))) (xs (Int32.toNatClampNeg (a4 + (2 : Int32)))) σ).bind fun q3 =>
  (ps_ck (a4 + (1 : Int32)) L ((ps_ck (a4 + (2 : Int32)) L (((fX5_covers (xs (Int32.toNatClampNeg (a4 + (1 : Int32)))) (xs (Int32.toNatClampNeg (a4 + (2 : Int32)))) q3.2).bind fun q6 =>
  (if q3.1 = q6.1 then some q6.2
  else none)))))))))))
set_option maxHeartbeats 4000000 in
set_option maxRecDepth 100000 in
theorem tL_c17 {z : ps_X} (C : ps_C z cL_law 7 "PartSumsLaw") (Z : ps_Z z 19 604) (ZM : ps_Z (z_more z) 19 604) {b L : Nat} {xs : Nat → Int32} (X : ps_XS z b L xs) {a4 : Int32} {σ r : ps_S} (h : fL_c17 xs L a4 σ = some r) (k : ps_at (z_more z) 7 1364 [(0, .ref b), (1, .ref (z_ad z 0)), (2, .ref (z_ad z 45)), (3, .ref (z_ad z 59)), (4, .int a4)] [] r) : ps_at z 7 833 [(0, .ref b), (1, .ref (z_ad z 0)), (2, .ref (z_ad z 45)), (3, .ref (z_ad z 59)), (4, .int a4)] [] σ := by
  unfold fL_c17 at h
  refine ps_aload_n C (pc := 833) dL_law_833 1 rfl ?_
  refine ps_aload_n C (pc := 834) dL_law_834 0 rfl ?_
  refine ps_iload C (pc := 835) dL_law_835 4 rfl ?_
  refine ps_iconst C (pc := 837) (v := 1) dL_law_837 (by decide) ?_
  refine ps_iadd C (pc := 838) dL_law_838 ?_
  obtain ⟨hi1, h⟩ := ps_ck_s h
  refine ps_sld C (pc := 839) X hi1 dL_law_839 ?_
  refine ps_aload_n C (pc := 840) dL_law_840 0 rfl ?_
  refine ps_iload C (pc := 841) dL_law_841 4 rfl ?_
  refine ps_iconst C (pc := 843) (v := 2) dL_law_843 (by decide) ?_
  refine ps_iadd C (pc := 844) dL_law_844 ?_
  obtain ⟨hi2, h⟩ := ps_ck_s h
  refine ps_sld C (pc := 845) X hi2 dL_law_845 ?_
  obtain ⟨q3, hq3, h⟩ := ps_bd h
  refine ps_callVI C Z (pc := 846) (As := [.int (xs (Int32.toNatClampNeg (a4 + (1 : Int32)))), .int (xs (Int32.toNatClampNeg (a4 + (2 : Int32))))]) (k0 := 0) (mX4_covers  hq3) (Cn := "PartSums") rfl tw_566 tw_567 tw_568 tw_65 tw_569 hdX4_covers rfl rfl ⟨by decide, by decide⟩ (by decide) ps_o0 rfl rfl (Nat.le_of_ble_eq_true rfl) dL_law_846 rfl ?_
  refine ps_aload_n C (pc := 849) dL_law_849 2 rfl ?_
  refine ps_aload_n C (pc := 850) dL_law_850 0 rfl ?_
  refine ps_iload C (pc := 851) dL_law_851 4 rfl ?_
  refine ps_iconst C (pc := 853) (v := 1) dL_law_853 (by decide) ?_
  refine ps_iadd C (pc := 854) dL_law_854 ?_
  obtain ⟨hi4, h⟩ := ps_ck_s h
  refine ps_sld C (pc := 855) X hi4 dL_law_855 ?_
  refine ps_aload_n C (pc := 856) dL_law_856 0 rfl ?_
  refine ps_iload C (pc := 857) dL_law_857 4 rfl ?_
  refine ps_iconst C (pc := 859) (v := 2) dL_law_859 (by decide) ?_
  refine ps_iadd C (pc := 860) dL_law_860 ?_
  obtain ⟨hi5, h⟩ := ps_ck_s h
  refine ps_sld C (pc := 861) X hi5 dL_law_861 ?_
  obtain ⟨q6, hq6, h⟩ := ps_bd h
  refine ps_callVI C Z (pc := 862) (As := [.int (xs (Int32.toNatClampNeg (a4 + (1 : Int32)))), .int (xs (Int32.toNatClampNeg (a4 + (2 : Int32))))]) (k0 := 45) (mX5_covers  hq6) (Cn := "PartSumsModel") rfl tw_1077 tw_1078 tw_1079 tw_70 tw_1080 hdX5_covers rfl rfl ⟨by decide, by decide⟩ (by decide) ps_o45 rfl rfl (Nat.le_of_ble_eq_true rfl) dL_law_862 rfl ?_
  refine ps_icmp_eq C (pc := 865) 1364 dL_law_865 (by decide) (fun hc => ?_) (fun hc => ?_)
  · have h := ps_ift hc h
    obtain rfl := Option.some.inj h
    exact ps_more (ps_sub [0, 1, 2, 3, 4] rfl k)
  · have h := ps_iff hc h
    cases h
def fL_c18 (xs : Nat → Int32) (L : Nat) (a4 : Int32) (σ : ps_S) : Option ps_S :=
  (ps_ck (a4 + (1 : Int32)) L ((ps_ck (a4 + (2 : Int32)) L (((fX4_partings (xs (Int32.toNatClampNeg (a4 + (1 : Int32)))) (xs (Int32.toNatClampNeg (a4 + (2 : Int32)))) σ).bind fun q3 =>
  (ps_ck (a4 + (1 : Int32)) L ((ps_ck (a4 + (2 : Int32)) L (((fX5_partings (xs (Int32.toNatClampNeg (a4 + (1 : Int32)))) (xs (Int32.toNatClampNeg (a4 + (2 : Int32)))) q3.2).bind fun q6 =>
  (if q3.1 = q6.1 then some q6.2
  else none)))))))))))
set_option maxHeartbeats 4000000 in
set_option maxRecDepth 100000 in
theorem tL_c18 {z : ps_X} (C : ps_C z cL_law 7 "PartSumsLaw") (Z : ps_Z z 19 604) (ZM : ps_Z (z_more z) 19 604) {b L : Nat} {xs : Nat → Int32} (X : ps_XS z b L xs) {a4 : Int32} {σ r : ps_S} (h : fL_c18 xs L a4 σ = some r) (k : ps_at (z_more z) 7 1364 [(0, .ref b), (1, .ref (z_ad z 0)), (2, .ref (z_ad z 45)), (3, .ref (z_ad z 59)), (4, .int a4)] [] r) : ps_at z 7 870 [(0, .ref b), (1, .ref (z_ad z 0)), (2, .ref (z_ad z 45)), (3, .ref (z_ad z 59)), (4, .int a4)] [] σ := by
  unfold fL_c18 at h
  refine ps_aload_n C (pc := 870) dL_law_870 1 rfl ?_
  refine ps_aload_n C (pc := 871) dL_law_871 0 rfl ?_
  refine ps_iload C (pc := 872) dL_law_872 4 rfl ?_
  refine ps_iconst C (pc := 874) (v := 1) dL_law_874 (by decide) ?_
  refine ps_iadd C (pc := 875) dL_law_875 ?_
  obtain ⟨hi1, h⟩ := ps_ck_s h
  refine ps_sld C (pc := 876) X hi1 dL_law_876 ?_
  refine ps_aload_n C (pc := 877) dL_law_877 0 rfl ?_
  refine ps_iload C (pc := 878) dL_law_878 4 rfl ?_
  refine ps_iconst C (pc := 880) (v := 2) dL_law_880 (by decide) ?_
  refine ps_iadd C (pc := 881) dL_law_881 ?_
  obtain ⟨hi2, h⟩ := ps_ck_s h
  refine ps_sld C (pc := 882) X hi2 dL_law_882 ?_
  obtain ⟨q3, hq3, h⟩ := ps_bd h
  refine ps_callVI C Z (pc := 883) (As := [.int (xs (Int32.toNatClampNeg (a4 + (1 : Int32)))), .int (xs (Int32.toNatClampNeg (a4 + (2 : Int32))))]) (k0 := 0) (mX4_partings  hq3) (Cn := "PartSums") rfl tw_571 tw_572 tw_573 tw_65 tw_574 hdX4_partings rfl rfl ⟨by decide, by decide⟩ (by decide) ps_o0 rfl rfl (Nat.le_of_ble_eq_true rfl) dL_law_883 rfl ?_
  refine ps_aload_n C (pc := 886) dL_law_886 2 rfl ?_
  refine ps_aload_n C (pc := 887) dL_law_887 0 rfl ?_
  refine ps_iload C (pc := 888) dL_law_888 4 rfl ?_
  refine ps_iconst C (pc := 890) (v := 1) dL_law_890 (by decide) ?_
  refine ps_iadd C (pc := 891) dL_law_891 ?_
  obtain ⟨hi4, h⟩ := ps_ck_s h
  refine ps_sld C (pc := 892) X hi4 dL_law_892 ?_
  refine ps_aload_n C (pc := 893) dL_law_893 0 rfl ?_
  refine ps_iload C (pc := 894) dL_law_894 4 rfl ?_
  refine ps_iconst C (pc := 896) (v := 2) dL_law_896 (by decide) ?_
  refine ps_iadd C (pc := 897) dL_law_897 ?_
  obtain ⟨hi5, h⟩ := ps_ck_s h
  refine ps_sld C (pc := 898) X hi5 dL_law_898 ?_
  obtain ⟨q6, hq6, h⟩ := ps_bd h
  refine ps_callVI C Z (pc := 899) (As := [.int (xs (Int32.toNatClampNeg (a4 + (1 : Int32)))), .int (xs (Int32.toNatClampNeg (a4 + (2 : Int32))))]) (k0 := 45) (mX5_partings  hq6) (Cn := "PartSumsModel") rfl tw_1086 tw_1087 tw_1088 tw_70 tw_1089 hdX5_partings rfl rfl ⟨by decide, by decide⟩ (by decide) ps_o45 rfl rfl (Nat.le_of_ble_eq_true rfl) dL_law_899 rfl ?_
  refine ps_icmp_eq C (pc := 902) 1364 dL_law_902 (by decide) (fun hc => ?_) (fun hc => ?_)
  · have h := ps_ift hc h
    obtain rfl := Option.some.inj h
    exact ps_more (ps_sub [0, 1, 2, 3, 4] rfl k)
  · have h := ps_iff hc h
    cases h
def fL_c19 (xs : Nat → Int32) (L : Nat) (a4 : Int32) (σ : ps_S) : Option ps_S :=
  (ps_ck (a4 + (1 : Int32)) L (((fX4_cheapest (xs (Int32.toNatClampNeg (a4 + (1 : Int32)))) σ).bind fun q2 =>
  (ps_ck (a4 + (1 : Int32)) L (((fX5_cheapest (xs (Int32.toNatClampNeg (a4 + (1 : Int32)))) q2.2).bind fun q4 =>
  (if q2.1 = q4.1 then some q4.2
  else none)))))))
set_option maxHeartbeats 4000000 in
set_option maxRecDepth 100000 in
theorem tL_c19 {z : ps_X} (C : ps_C z cL_law 7 "PartSumsLaw") (Z : ps_Z z 19 604) (ZM : ps_Z (z_more z) 19 604) {b L : Nat} {xs : Nat → Int32} (X : ps_XS z b L xs) {a4 : Int32} {σ r : ps_S} (h : fL_c19 xs L a4 σ = some r) (k : ps_at (z_more z) 7 1364 [(0, .ref b), (1, .ref (z_ad z 0)), (2, .ref (z_ad z 45)), (3, .ref (z_ad z 59)), (4, .int a4)] [] r) : ps_at z 7 907 [(0, .ref b), (1, .ref (z_ad z 0)), (2, .ref (z_ad z 45)), (3, .ref (z_ad z 59)), (4, .int a4)] [] σ := by
  unfold fL_c19 at h
  refine ps_aload_n C (pc := 907) dL_law_907 1 rfl ?_
  refine ps_aload_n C (pc := 908) dL_law_908 0 rfl ?_
  refine ps_iload C (pc := 909) dL_law_909 4 rfl ?_
  refine ps_iconst C (pc := 911) (v := 1) dL_law_911 (by decide) ?_
  refine ps_iadd C (pc := 912) dL_law_912 ?_
  obtain ⟨hi1, h⟩ := ps_ck_s h
  refine ps_sld C (pc := 913) X hi1 dL_law_913 ?_
  obtain ⟨q2, hq2, h⟩ := ps_bd h
  refine ps_callVI C Z (pc := 914) (As := [.int (xs (Int32.toNatClampNeg (a4 + (1 : Int32))))]) (k0 := 0) (mX4_cheapest  hq2) (Cn := "PartSums") rfl tw_579 tw_580 tw_581 tw_65 tw_582 hdX4_cheapest rfl rfl ⟨by decide, by decide⟩ (by decide) ps_o0 rfl rfl (Nat.le_of_ble_eq_true rfl) dL_law_914 rfl ?_
  refine ps_aload_n C (pc := 917) dL_law_917 2 rfl ?_
  refine ps_aload_n C (pc := 918) dL_law_918 0 rfl ?_
  refine ps_iload C (pc := 919) dL_law_919 4 rfl ?_
  refine ps_iconst C (pc := 921) (v := 1) dL_law_921 (by decide) ?_
  refine ps_iadd C (pc := 922) dL_law_922 ?_
  obtain ⟨hi3, h⟩ := ps_ck_s h
  refine ps_sld C (pc := 923) X hi3 dL_law_923 ?_
  obtain ⟨q4, hq4, h⟩ := ps_bd h
  refine ps_callVI C Z (pc := 924) (As := [.int (xs (Int32.toNatClampNeg (a4 + (1 : Int32))))]) (k0 := 45) (mX5_cheapest  hq4) (Cn := "PartSumsModel") rfl tw_1094 tw_1095 tw_1096 tw_70 tw_1097 hdX5_cheapest rfl rfl ⟨by decide, by decide⟩ (by decide) ps_o45 rfl rfl (Nat.le_of_ble_eq_true rfl) dL_law_924 rfl ?_
  refine ps_icmp_eq C (pc := 927) 1364 dL_law_927 (by decide) (fun hc => ?_) (fun hc => ?_)
  · have h := ps_ift hc h
    obtain rfl := Option.some.inj h
    exact ps_more (ps_sub [0, 1, 2, 3, 4] rfl k)
  · have h := ps_iff hc h
    cases h
def fL_c20 (xs : Nat → Int32) (L : Nat) (a4 : Int32) (σ : ps_S) : Option ps_S :=
  (ps_ck (a4 + (1 : Int32)) L ((ps_ck (a4 + (2 : Int32)) L (((fL_part (xs (Int32.toNatClampNeg (a4 + (1 : Int32)))) (xs (Int32.toNatClampNeg (a4 + (2 : Int32)))) σ).bind fun q3 =>
  (ps_let q3.1 fun x4 =>
  (ps_ck (a4 + (1 : Int32)) L ((ps_ck (a4 + (2 : Int32)) L (((fX5_part (xs (Int32.toNatClampNeg (a4 + (1 : Int32)))) (xs (Int32.toNatClampNeg (a4 + (2 : Int32)))) q3.2).bind fun q7 =>
  (ps_let q7.1 fun x8 =>
  ((fX5_thrown q7.2).bind fun q9 =>
  (if q9 = x4 then (if x4 = 0 then (ps_ck (0 : Int32) 1 ((if (lg_cmp (q7.2.2 59 (Int32.toNatClampNeg (0 : Int32))) (Int32.toInt64 x8)) = 0 then some q7.2
  else none)))
  else some q7.2)
  else none))))))))))))))
set_option maxHeartbeats 4000000 in
set_option maxRecDepth 100000 in
theorem tL_c20 {z : ps_X} (C : ps_C z cL_law 7 "PartSumsLaw") (Z : ps_Z z 19 604) (ZM : ps_Z (z_more z) 19 604) {b L : Nat} {xs : Nat → Int32} (X : ps_XS z b L xs) (hp : ps_PartOk z) {a4 : Int32} {σ r : ps_S} (h : fL_c20 xs L a4 σ = some r) (k : ps_at (z_more z) 7 1364 [(0, .ref b), (1, .ref (z_ad z 0)), (2, .ref (z_ad z 45)), (3, .ref (z_ad z 59)), (4, .int a4)] [] r) : ps_at z 7 932 [(0, .ref b), (1, .ref (z_ad z 0)), (2, .ref (z_ad z 45)), (3, .ref (z_ad z 59)), (4, .int a4)] [] σ := by
  unfold fL_c20 at h
  refine ps_aload_n C (pc := 932) dL_law_932 1 rfl ?_
  refine ps_aload_n C (pc := 933) dL_law_933 0 rfl ?_
  refine ps_iload C (pc := 934) dL_law_934 4 rfl ?_
  refine ps_iconst C (pc := 936) (v := 1) dL_law_936 (by decide) ?_
  refine ps_iadd C (pc := 937) dL_law_937 ?_
  obtain ⟨hi1, h⟩ := ps_ck_s h
  refine ps_sld C (pc := 938) X hi1 dL_law_938 ?_
  refine ps_aload_n C (pc := 939) dL_law_939 0 rfl ?_
  refine ps_iload C (pc := 940) dL_law_940 4 rfl ?_
  refine ps_iconst C (pc := 942) (v := 2) dL_law_942 (by decide) ?_
  refine ps_iadd C (pc := 943) dL_law_943 ?_
  obtain ⟨hi2, h⟩ := ps_ck_s h
  refine ps_sld C (pc := 944) X hi2 dL_law_944 ?_
  refine ps_aload_n C (pc := 945) dL_law_945 3 rfl ?_
  obtain ⟨q3, hq3, h⟩ := ps_bd h
  refine hp 946 _ _ _ _ _ _ dL_law_946 (Nat.le_of_ble_eq_true rfl) hq3 ?_
  have C := ps_Cmore C
  have Z := ZM
  have X := ps_XSmore X
  show ps_at (z_more z) 7 949 [(0, .ref b), (1, .ref (z_ad z 0)), (2, .ref (z_ad z 45)), (3, .ref (z_ad z 59)), (4, .int a4)] [.int q3.1] q3.2
  revert C Z X k
  have e0 : z_ad (z_more z) = z_ad z := rfl
  rw [← e0]
  generalize z_more z = z
  intro k C Z X
  refine ps_istoreL C (pc := 949) (lw := fun x4 => [(5, .int x4), (0, .ref b), (1, .ref (z_ad z 0)), (2, .ref (z_ad z 45)), (3, .ref (z_ad z 59)), (4, .int a4)]) dL_law_949 (by decide) (fun _ => rfl) h (fun x4 h => ?_)
  refine ps_aload_n C (pc := 951) dL_law_951 3 rfl ?_
  refine ps_aload_n C (pc := 952) dL_law_952 1 rfl ?_
  refine ps_iload C (pc := 953) dL_law_953 5 rfl ?_
  refine ps_iconst C (pc := 955) (v := 1) dL_law_955 (by decide) ?_
  refine ps_iadd C (pc := 956) dL_law_956 ?_
  obtain ⟨hi5, h⟩ := ps_ck_s h
  refine ps_sld C (pc := 957) X hi5 dL_law_957 ?_
  refine ps_aload_n C (pc := 958) dL_law_958 1 rfl ?_
  refine ps_iload C (pc := 959) dL_law_959 5 rfl ?_
  refine ps_iconst C (pc := 961) (v := 2) dL_law_961 (by decide) ?_
  refine ps_iadd C (pc := 962) dL_law_962 ?_
  obtain ⟨hi6, h⟩ := ps_ck_s h
  refine ps_sld C (pc := 963) X hi6 dL_law_963 ?_
  obtain ⟨q7, hq7, h⟩ := ps_bd h
  refine ps_callVI C Z (pc := 964) (As := [.int (xs (Int32.toNatClampNeg (a4 + (1 : Int32)))), .int (xs (Int32.toNatClampNeg (a4 + (2 : Int32))))]) (k0 := 45) (mX5_part  hq7) (Cn := "PartSumsModel") rfl tw_1102 tw_1103 tw_1104 tw_70 tw_1105 hdX5_part rfl rfl ⟨by decide, by decide⟩ (by decide) ps_o45 rfl rfl (Nat.le_of_ble_eq_true rfl) dL_law_964 rfl ?_
  refine ps_istoreL C (pc := 967) (lw := fun x8 => [(6, .int x8), (5, .int x4), (0, .ref b), (1, .ref (z_ad z 0)), (2, .ref (z_ad z 45)), (3, .ref (z_ad z 59)), (4, .int a4)]) dL_law_967 (by decide) (fun _ => rfl) h (fun x8 h => ?_)
  refine ps_aload_n C (pc := 969) dL_law_969 4 rfl ?_
  obtain ⟨q9, hq9, h⟩ := ps_bd h
  refine ps_callVI C Z (pc := 970) (As := []) (k0 := 45) (mX5_thrown  hq9) (Cn := "PartSumsModel") rfl tw_774 tw_775 tw_776 tw_70 tw_777 hdX5_thrown rfl rfl ⟨by decide, by decide⟩ (by decide) ps_o45 rfl rfl (Nat.le_of_ble_eq_true rfl) dL_law_970 rfl ?_
  refine ps_iload C (pc := 973) dL_law_973 1 rfl ?_
  refine ps_icmp_eq C (pc := 975) 980 dL_law_975 (by decide) (fun hc => ?_) (fun hc => ?_)
  · have h := ps_ift hc h
    refine ps_iload C (pc := 980) dL_law_980 1 rfl ?_
    refine ps_if_ne C (pc := 982) 997 dL_law_982 (by decide) (fun hc => ?_) (fun hc => ?_)
    · have h := ps_iff hc h
      refine ps_goto C (pc := 997) 1364 dL_law_997 (by decide) ?_
      obtain rfl := Option.some.inj h
      exact ps_sub [2, 3, 4, 5, 6] rfl k
    · have h := ps_ift hc h
      refine ps_aload_n C (pc := 985) dL_law_985 5 rfl ?_
      refine ps_iconst C (pc := 986) (v := 0) dL_law_986 (by decide) ?_
      obtain ⟨hi10, h⟩ := ps_ck_s h
      refine ps_lald C (pc := 987) 59 rfl rfl hi10 dL_law_987 ?_
      refine ps_iload C (pc := 988) dL_law_988 0 rfl ?_
      refine ps_i2l C (pc := 990) dL_law_990 ?_
      refine ps_lcmp C (pc := 991) dL_law_991 ?_
      refine ps_if_eq C (pc := 992) 997 dL_law_992 (by decide) (fun hc => ?_) (fun hc => ?_)
      · have h := ps_ift hc h
        refine ps_goto C (pc := 997) 1364 dL_law_997 (by decide) ?_
        obtain rfl := Option.some.inj h
        exact ps_sub [2, 3, 4, 5, 6] rfl k
      · have h := ps_iff hc h
        cases h
  · have h := ps_iff hc h
    cases h
def fL_c21 (xs : Nat → Int32) (L : Nat) (a4 : Int32) (σ : ps_S) : Option ps_S :=
  (ps_ck (a4 + (1 : Int32)) L (((fX4_colours (xs (Int32.toNatClampNeg (a4 + (1 : Int32)))) σ).bind fun q2 =>
  (ps_ck (a4 + (1 : Int32)) L (((fX5_colours (xs (Int32.toNatClampNeg (a4 + (1 : Int32)))) q2.2).bind fun q4 =>
  (if q2.1 = q4.1 then some q4.2
  else none)))))))
set_option maxHeartbeats 4000000 in
set_option maxRecDepth 100000 in
theorem tL_c21 {z : ps_X} (C : ps_C z cL_law 7 "PartSumsLaw") (Z : ps_Z z 19 604) (ZM : ps_Z (z_more z) 19 604) {b L : Nat} {xs : Nat → Int32} (X : ps_XS z b L xs) {a4 : Int32} {σ r : ps_S} (h : fL_c21 xs L a4 σ = some r) (k : ps_at (z_more z) 7 1364 [(0, .ref b), (1, .ref (z_ad z 0)), (2, .ref (z_ad z 45)), (3, .ref (z_ad z 59)), (4, .int a4)] [] r) : ps_at z 7 1000 [(0, .ref b), (1, .ref (z_ad z 0)), (2, .ref (z_ad z 45)), (3, .ref (z_ad z 59)), (4, .int a4)] [] σ := by
  unfold fL_c21 at h
  refine ps_aload_n C (pc := 1000) dL_law_1000 1 rfl ?_
  refine ps_aload_n C (pc := 1001) dL_law_1001 0 rfl ?_
  refine ps_iload C (pc := 1002) dL_law_1002 4 rfl ?_
  refine ps_iconst C (pc := 1004) (v := 1) dL_law_1004 (by decide) ?_
  refine ps_iadd C (pc := 1005) dL_law_1005 ?_
  obtain ⟨hi1, h⟩ := ps_ck_s h
  refine ps_sld C (pc := 1006) X hi1 dL_law_1006 ?_
  obtain ⟨q2, hq2, h⟩ := ps_bd h
  refine ps_callVI C Z (pc := 1007) (As := [.int (xs (Int32.toNatClampNeg (a4 + (1 : Int32))))]) (k0 := 0) (mX4_colours  hq2) (Cn := "PartSums") rfl tw_597 tw_598 tw_599 tw_65 tw_600 hdX4_colours rfl rfl ⟨by decide, by decide⟩ (by decide) ps_o0 rfl rfl (Nat.le_of_ble_eq_true rfl) dL_law_1007 rfl ?_
  refine ps_aload_n C (pc := 1010) dL_law_1010 2 rfl ?_
  refine ps_aload_n C (pc := 1011) dL_law_1011 0 rfl ?_
  refine ps_iload C (pc := 1012) dL_law_1012 4 rfl ?_
  refine ps_iconst C (pc := 1014) (v := 1) dL_law_1014 (by decide) ?_
  refine ps_iadd C (pc := 1015) dL_law_1015 ?_
  obtain ⟨hi3, h⟩ := ps_ck_s h
  refine ps_sld C (pc := 1016) X hi3 dL_law_1016 ?_
  obtain ⟨q4, hq4, h⟩ := ps_bd h
  refine ps_callVI C Z (pc := 1017) (As := [.int (xs (Int32.toNatClampNeg (a4 + (1 : Int32))))]) (k0 := 45) (mX5_colours  hq4) (Cn := "PartSumsModel") rfl tw_1110 tw_1111 tw_1112 tw_70 tw_1113 hdX5_colours rfl rfl ⟨by decide, by decide⟩ (by decide) ps_o45 rfl rfl (Nat.le_of_ble_eq_true rfl) dL_law_1017 rfl ?_
  refine ps_icmp_eq C (pc := 1020) 1364 dL_law_1020 (by decide) (fun hc => ?_) (fun hc => ?_)
  · have h := ps_ift hc h
    obtain rfl := Option.some.inj h
    exact ps_more (ps_sub [0, 1, 2, 3, 4] rfl k)
  · have h := ps_iff hc h
    cases h
def fL_c22 (xs : Nat → Int32) (L : Nat) (a4 : Int32) (σ : ps_S) : Option ps_S :=
  (ps_ck (a4 + (1 : Int32)) L ((ps_ck (a4 + (2 : Int32)) L (((fX4_colour (xs (Int32.toNatClampNeg (a4 + (1 : Int32)))) (xs (Int32.toNatClampNeg (a4 + (2 : Int32)))) σ).bind fun q3 =>
  (ps_ck (a4 + (1 : Int32)) L ((ps_ck (a4 + (2 : Int32)) L (((fX5_colour (xs (Int32.toNatClampNeg (a4 + (1 : Int32)))) (xs (Int32.toNatClampNeg (a4 + (2 : Int32)))) q3.2).bind fun q6 =>
  (if q3.1 = q6.1 then some q6.2
  else none)))))))))))
set_option maxHeartbeats 4000000 in
set_option maxRecDepth 100000 in
theorem tL_c22 {z : ps_X} (C : ps_C z cL_law 7 "PartSumsLaw") (Z : ps_Z z 19 604) (ZM : ps_Z (z_more z) 19 604) {b L : Nat} {xs : Nat → Int32} (X : ps_XS z b L xs) {a4 : Int32} {σ r : ps_S} (h : fL_c22 xs L a4 σ = some r) (k : ps_at (z_more z) 7 1364 [(0, .ref b), (1, .ref (z_ad z 0)), (2, .ref (z_ad z 45)), (3, .ref (z_ad z 59)), (4, .int a4)] [] r) : ps_at z 7 1025 [(0, .ref b), (1, .ref (z_ad z 0)), (2, .ref (z_ad z 45)), (3, .ref (z_ad z 59)), (4, .int a4)] [] σ := by
  unfold fL_c22 at h
  refine ps_aload_n C (pc := 1025) dL_law_1025 1 rfl ?_
  refine ps_aload_n C (pc := 1026) dL_law_1026 0 rfl ?_
  refine ps_iload C (pc := 1027) dL_law_1027 4 rfl ?_
  refine ps_iconst C (pc := 1029) (v := 1) dL_law_1029 (by decide) ?_
  refine ps_iadd C (pc := 1030) dL_law_1030 ?_
  obtain ⟨hi1, h⟩ := ps_ck_s h
  refine ps_sld C (pc := 1031) X hi1 dL_law_1031 ?_
  refine ps_aload_n C (pc := 1032) dL_law_1032 0 rfl ?_
  refine ps_iload C (pc := 1033) dL_law_1033 4 rfl ?_
  refine ps_iconst C (pc := 1035) (v := 2) dL_law_1035 (by decide) ?_
  refine ps_iadd C (pc := 1036) dL_law_1036 ?_
  obtain ⟨hi2, h⟩ := ps_ck_s h
  refine ps_sld C (pc := 1037) X hi2 dL_law_1037 ?_
  obtain ⟨q3, hq3, h⟩ := ps_bd h
  refine ps_callVI C Z (pc := 1038) (As := [.int (xs (Int32.toNatClampNeg (a4 + (1 : Int32)))), .int (xs (Int32.toNatClampNeg (a4 + (2 : Int32))))]) (k0 := 0) (mX4_colour  hq3) (Cn := "PartSums") rfl tw_608 tw_609 tw_610 tw_65 tw_611 hdX4_colour rfl rfl ⟨by decide, by decide⟩ (by decide) ps_o0 rfl rfl (Nat.le_of_ble_eq_true rfl) dL_law_1038 rfl ?_
  refine ps_aload_n C (pc := 1041) dL_law_1041 2 rfl ?_
  refine ps_aload_n C (pc := 1042) dL_law_1042 0 rfl ?_
  refine ps_iload C (pc := 1043) dL_law_1043 4 rfl ?_
  refine ps_iconst C (pc := 1045) (v := 1) dL_law_1045 (by decide) ?_
  refine ps_iadd C (pc := 1046) dL_law_1046 ?_
  obtain ⟨hi4, h⟩ := ps_ck_s h
  refine ps_sld C (pc := 1047) X hi4 dL_law_1047 ?_
  refine ps_aload_n C (pc := 1048) dL_law_1048 0 rfl ?_
  refine ps_iload C (pc := 1049) dL_law_1049 4 rfl ?_
  refine ps_iconst C (pc := 1051) (v := 2) dL_law_1051 (by decide) ?_
  refine ps_iadd C (pc := 1052) dL_law_1052 ?_
  obtain ⟨hi5, h⟩ := ps_ck_s h
  refine ps_sld C (pc := 1053) X hi5 dL_law_1053 ?_
  obtain ⟨q6, hq6, h⟩ := ps_bd h
  refine ps_callVI C Z (pc := 1054) (As := [.int (xs (Int32.toNatClampNeg (a4 + (1 : Int32)))), .int (xs (Int32.toNatClampNeg (a4 + (2 : Int32))))]) (k0 := 45) (mX5_colour  hq6) (Cn := "PartSumsModel") rfl tw_1122 tw_1123 tw_1124 tw_70 tw_1125 hdX5_colour rfl rfl ⟨by decide, by decide⟩ (by decide) ps_o45 rfl rfl (Nat.le_of_ble_eq_true rfl) dL_law_1054 rfl ?_
  refine ps_icmp_eq C (pc := 1057) 1364 dL_law_1057 (by decide) (fun hc => ?_) (fun hc => ?_)
  · have h := ps_ift hc h
    obtain rfl := Option.some.inj h
    exact ps_more (ps_sub [0, 1, 2, 3, 4] rfl k)
  · have h := ps_iff hc h
    cases h
def fL_c23 (xs : Nat → Int32) (L : Nat) (a4 : Int32) (σ : ps_S) : Option ps_S :=
  (ps_ck (a4 + (1 : Int32)) L ((ps_ck (a4 + (2 : Int32)) L (((fX4_colourings (xs (Int32.toNatClampNeg (a4 + (1 : Int32)))) (xs (Int32.toNatClampNeg (a4 + (2 : Int32)))) σ).bind fun q3 =>
  (ps_ck (a4 + (1 : Int32)) L ((ps_ck (a4 + (2 : Int32)) L (((fX5_colourings (xs (Int32.toNatClampNeg (a4 + (1 : Int32)))) (xs (Int32.toNatClampNeg (a4 + (2 : Int32)))) q3.2).bind fun q6 =>
  (if (lg_cmp q3.1 q6.1) = 0 then some q6.2
  else none)))))))))))
set_option maxHeartbeats 4000000 in
set_option maxRecDepth 100000 in
theorem tL_c23 {z : ps_X} (C : ps_C z cL_law 7 "PartSumsLaw") (Z : ps_Z z 19 604) (ZM : ps_Z (z_more z) 19 604) {b L : Nat} {xs : Nat → Int32} (X : ps_XS z b L xs) {a4 : Int32} {σ r : ps_S} (h : fL_c23 xs L a4 σ = some r) (k : ps_at (z_more z) 7 1364 [(0, .ref b), (1, .ref (z_ad z 0)), (2, .ref (z_ad z 45)), (3, .ref (z_ad z 59)), (4, .int a4)] [] r) : ps_at z 7 1062 [(0, .ref b), (1, .ref (z_ad z 0)), (2, .ref (z_ad z 45)), (3, .ref (z_ad z 59)), (4, .int a4)] [] σ := by
  unfold fL_c23 at h
  refine ps_aload_n C (pc := 1062) dL_law_1062 1 rfl ?_
  refine ps_aload_n C (pc := 1063) dL_law_1063 0 rfl ?_
  refine ps_iload C (pc := 1064) dL_law_1064 4 rfl ?_
  refine ps_iconst C (pc := 1066) (v := 1) dL_law_1066 (by decide) ?_
  refine ps_iadd C (pc := 1067) dL_law_1067 ?_
  obtain ⟨hi1, h⟩ := ps_ck_s h
  refine ps_sld C (pc := 1068) X hi1 dL_law_1068 ?_
  refine ps_aload_n C (pc := 1069) dL_law_1069 0 rfl ?_
  refine ps_iload C (pc := 1070) dL_law_1070 4 rfl ?_
  refine ps_iconst C (pc := 1072) (v := 2) dL_law_1072 (by decide) ?_
  refine ps_iadd C (pc := 1073) dL_law_1073 ?_
  obtain ⟨hi2, h⟩ := ps_ck_s h
  refine ps_sld C (pc := 1074) X hi2 dL_law_1074 ?_
  obtain ⟨q3, hq3, h⟩ := ps_bd h
  refine ps_callVL C Z (pc := 1075) (As := [.int (xs (Int32.toNatClampNeg (a4 + (1 : Int32)))), .int (xs (Int32.toNatClampNeg (a4 + (2 : Int32))))]) (k0 := 0) (mX4_colourings  hq3) (Cn := "PartSums") rfl tw_612 tw_613 tw_614 tw_65 tw_615 hdX4_colourings rfl rfl ⟨by decide, by decide⟩ (by decide) ps_o0 rfl rfl (Nat.le_of_ble_eq_true rfl) dL_law_1075 rfl ?_
  refine ps_aload_n C (pc := 1078) dL_law_1078 2 rfl ?_
  refine ps_aload_n C (pc := 1079) dL_law_1079 0 rfl ?_
  refine ps_iload C (pc := 1080) dL_law_1080 4 rfl ?_
  refine ps_iconst C (pc := 1082) (v := 1) dL_law_1082 (by decide) ?_
  refine ps_iadd C (pc := 1083) dL_law_1083 ?_
  obtain ⟨hi4, h⟩ := ps_ck_s h
  refine ps_sld C (pc := 1084) X hi4 dL_law_1084 ?_
  refine ps_aload_n C (pc := 1085) dL_law_1085 0 rfl ?_
  refine ps_iload C (pc := 1086) dL_law_1086 4 rfl ?_
  refine ps_iconst C (pc := 1088) (v := 2) dL_law_1088 (by decide) ?_
  refine ps_iadd C (pc := 1089) dL_law_1089 ?_
  obtain ⟨hi5, h⟩ := ps_ck_s h
  refine ps_sld C (pc := 1090) X hi5 dL_law_1090 ?_
  obtain ⟨q6, hq6, h⟩ := ps_bd h
  refine ps_callVL C Z (pc := 1091) (As := [.int (xs (Int32.toNatClampNeg (a4 + (1 : Int32)))), .int (xs (Int32.toNatClampNeg (a4 + (2 : Int32))))]) (k0 := 45) (mX5_colourings  hq6) (Cn := "PartSumsModel") rfl tw_1130 tw_1131 tw_1132 tw_70 tw_1133 hdX5_colourings rfl rfl ⟨by decide, by decide⟩ (by decide) ps_o45 rfl rfl (Nat.le_of_ble_eq_true rfl) dL_law_1091 rfl ?_
  refine ps_lcmp C (pc := 1094) dL_law_1094 ?_
  refine ps_if_eq C (pc := 1095) 1364 dL_law_1095 (by decide) (fun hc => ?_) (fun hc => ?_)
  · have h := ps_ift hc h
    obtain rfl := Option.some.inj h
    exact ps_more (ps_sub [0, 1, 2, 3, 4] rfl k)
  · have h := ps_iff hc h
    cases h
def fL_c24 (xs : Nat → Int32) (L : Nat) (a4 : Int32) (σ : ps_S) : Option ps_S :=
  (ps_ck (a4 + (1 : Int32)) L (((fX4_hangs (xs (Int32.toNatClampNeg (a4 + (1 : Int32)))) σ).bind fun q2 =>
  (ps_ck (a4 + (1 : Int32)) L (((fX5_hangs (xs (Int32.toNatClampNeg (a4 + (1 : Int32)))) q2.2).bind fun q4 =>
  (if q2.1 = q4.1 then some q4.2
  else none)))))))
set_option maxHeartbeats 4000000 in
set_option maxRecDepth 100000 in
theorem tL_c24 {z : ps_X} (C : ps_C z cL_law 7 "PartSumsLaw") (Z : ps_Z z 19 604) (ZM : ps_Z (z_more z) 19 604) {b L : Nat} {xs : Nat → Int32} (X : ps_XS z b L xs) {a4 : Int32} {σ r : ps_S} (h : fL_c24 xs L a4 σ = some r) (k : ps_at (z_more z) 7 1364 [(0, .ref b), (1, .ref (z_ad z 0)), (2, .ref (z_ad z 45)), (3, .ref (z_ad z 59)), (4, .int a4)] [] r) : ps_at z 7 1100 [(0, .ref b), (1, .ref (z_ad z 0)), (2, .ref (z_ad z 45)), (3, .ref (z_ad z 59)), (4, .int a4)] [] σ := by
  unfold fL_c24 at h
  refine ps_aload_n C (pc := 1100) dL_law_1100 1 rfl ?_
  refine ps_aload_n C (pc := 1101) dL_law_1101 0 rfl ?_
  refine ps_iload C (pc := 1102) dL_law_1102 4 rfl ?_
  refine ps_iconst C (pc := 1104) (v := 1) dL_law_1104 (by decide) ?_
  refine ps_iadd C (pc := 1105) dL_law_1105 ?_
  obtain ⟨hi1, h⟩ := ps_ck_s h
  refine ps_sld C (pc := 1106) X hi1 dL_law_1106 ?_
  obtain ⟨q2, hq2, h⟩ := ps_bd h
  refine ps_callVI C Z (pc := 1107) (As := [.int (xs (Int32.toNatClampNeg (a4 + (1 : Int32))))]) (k0 := 0) (mX4_hangs  hq2) (Cn := "PartSums") rfl tw_618 tw_619 tw_620 tw_65 tw_621 hdX4_hangs rfl rfl ⟨by decide, by decide⟩ (by decide) ps_o0 rfl rfl (Nat.le_of_ble_eq_true rfl) dL_law_1107 rfl ?_
  refine ps_aload_n C (pc := 1110) dL_law_1110 2 rfl ?_
  refine ps_aload_n C (pc := 1111) dL_law_1111 0 rfl ?_
  refine ps_iload C (pc := 1112) dL_law_1112 4 rfl ?_
  refine ps_iconst C (pc := 1114) (v := 1) dL_law_1114 (by decide) ?_
  refine ps_iadd C (pc := 1115) dL_law_1115 ?_
  obtain ⟨hi3, h⟩ := ps_ck_s h
  refine ps_sld C (pc := 1116) X hi3 dL_law_1116 ?_
  obtain ⟨q4, hq4, h⟩ := ps_bd h
  refine ps_callVI C Z (pc := 1117) (As := [.int (xs (Int32.toNatClampNeg (a4 + (1 : Int32))))]) (k0 := 45) (mX5_hangs  hq4) (Cn := "PartSumsModel") rfl tw_1135 tw_1136 tw_1137 tw_70 tw_1138 hdX5_hangs rfl rfl ⟨by decide, by decide⟩ (by decide) ps_o45 rfl rfl (Nat.le_of_ble_eq_true rfl) dL_law_1117 rfl ?_
  refine ps_icmp_eq C (pc := 1120) 1364 dL_law_1120 (by decide) (fun hc => ?_) (fun hc => ?_)
  · have h := ps_ift hc h
    obtain rfl := Option.some.inj h
    exact ps_more (ps_sub [0, 1, 2, 3, 4] rfl k)
  · have h := ps_iff hc h
    cases h
def fL_c25 (xs : Nat → Int32) (L : Nat) (a4 : Int32) (σ : ps_S) : Option ps_S :=
  (ps_ck (a4 + (1 : Int32)) L ((ps_ck (a4 + (2 : Int32)) L (((fX4_weigh (xs (Int32.toNatClampNeg (a4 + (1 : Int32)))) (xs (Int32.toNatClampNeg (a4 + (2 : Int32)))) σ).bind fun q3 =>
  (ps_ck (a4 + (1 : Int32)) L ((ps_ck (a4 + (2 : Int32)) L (((fX5_weigh (xs (Int32.toNatClampNeg (a4 + (1 : Int32)))) (xs (Int32.toNatClampNeg (a4 + (2 : Int32)))) q3.2).bind fun q6 =>
  (if q3.1 = q6.1 then some q6.2
  else none)))))))))))
set_option maxHeartbeats 4000000 in
set_option maxRecDepth 100000 in
theorem tL_c25 {z : ps_X} (C : ps_C z cL_law 7 "PartSumsLaw") (Z : ps_Z z 19 604) (ZM : ps_Z (z_more z) 19 604) {b L : Nat} {xs : Nat → Int32} (X : ps_XS z b L xs) {a4 : Int32} {σ r : ps_S} (h : fL_c25 xs L a4 σ = some r) (k : ps_at (z_more z) 7 1364 [(0, .ref b), (1, .ref (z_ad z 0)), (2, .ref (z_ad z 45)), (3, .ref (z_ad z 59)), (4, .int a4)] [] r) : ps_at z 7 1125 [(0, .ref b), (1, .ref (z_ad z 0)), (2, .ref (z_ad z 45)), (3, .ref (z_ad z 59)), (4, .int a4)] [] σ := by
  unfold fL_c25 at h
  refine ps_aload_n C (pc := 1125) dL_law_1125 1 rfl ?_
  refine ps_aload_n C (pc := 1126) dL_law_1126 0 rfl ?_
  refine ps_iload C (pc := 1127) dL_law_1127 4 rfl ?_
  refine ps_iconst C (pc := 1129) (v := 1) dL_law_1129 (by decide) ?_
  refine ps_iadd C (pc := 1130) dL_law_1130 ?_
  obtain ⟨hi1, h⟩ := ps_ck_s h
  refine ps_sld C (pc := 1131) X hi1 dL_law_1131 ?_
  refine ps_aload_n C (pc := 1132) dL_law_1132 0 rfl ?_
  refine ps_iload C (pc := 1133) dL_law_1133 4 rfl ?_
  refine ps_iconst C (pc := 1135) (v := 2) dL_law_1135 (by decide) ?_
  refine ps_iadd C (pc := 1136) dL_law_1136 ?_
  obtain ⟨hi2, h⟩ := ps_ck_s h
  refine ps_sld C (pc := 1137) X hi2 dL_law_1137 ?_
  obtain ⟨q3, hq3, h⟩ := ps_bd h
  refine ps_callVI C Z (pc := 1138) (As := [.int (xs (Int32.toNatClampNeg (a4 + (1 : Int32)))), .int (xs (Int32.toNatClampNeg (a4 + (2 : Int32))))]) (k0 := 0) (mX4_weigh  hq3) (Cn := "PartSums") rfl tw_622 tw_623 tw_624 tw_65 tw_625 hdX4_weigh rfl rfl ⟨by decide, by decide⟩ (by decide) ps_o0 rfl rfl (Nat.le_of_ble_eq_true rfl) dL_law_1138 rfl ?_
  refine ps_aload_n C (pc := 1141) dL_law_1141 2 rfl ?_
  refine ps_aload_n C (pc := 1142) dL_law_1142 0 rfl ?_
  refine ps_iload C (pc := 1143) dL_law_1143 4 rfl ?_
  refine ps_iconst C (pc := 1145) (v := 1) dL_law_1145 (by decide) ?_
  refine ps_iadd C (pc := 1146) dL_law_1146 ?_
  obtain ⟨hi4, h⟩ := ps_ck_s h
  refine ps_sld C (pc := 1147) X hi4 dL_law_1147 ?_
  refine ps_aload_n C (pc := 1148) dL_law_1148 0 rfl ?_
  refine ps_iload C (pc := 1149) dL_law_1149 4 rfl ?_
  refine ps_iconst C (pc := 1151) (v := 2) dL_law_1151 (by decide) ?_
  refine ps_iadd C (pc := 1152) dL_law_1152 ?_
  obtain ⟨hi5, h⟩ := ps_ck_s h
  refine ps_sld C (pc := 1153) X hi5 dL_law_1153 ?_
  obtain ⟨q6, hq6, h⟩ := ps_bd h
  refine ps_callVI C Z (pc := 1154) (As := [.int (xs (Int32.toNatClampNeg (a4 + (1 : Int32)))), .int (xs (Int32.toNatClampNeg (a4 + (2 : Int32))))]) (k0 := 45) (mX5_weigh  hq6) (Cn := "PartSumsModel") rfl tw_1139 tw_1140 tw_1141 tw_70 tw_1142 hdX5_weigh rfl rfl ⟨by decide, by decide⟩ (by decide) ps_o45 rfl rfl (Nat.le_of_ble_eq_true rfl) dL_law_1154 rfl ?_
  refine ps_icmp_eq C (pc := 1157) 1364 dL_law_1157 (by decide) (fun hc => ?_) (fun hc => ?_)
  · have h := ps_ift hc h
    obtain rfl := Option.some.inj h
    exact ps_more (ps_sub [0, 1, 2, 3, 4] rfl k)
  · have h := ps_iff hc h
    cases h
def fL_c26 (xs : Nat → Int32) (L : Nat) (a4 : Int32) (σ : ps_S) : Option ps_S :=
  (ps_ck (a4 + (1 : Int32)) L ((ps_ck (a4 + (2 : Int32)) L ((ps_ck (a4 + (3 : Int32)) L ((if (xs (Int32.toNatClampNeg (a4 + (3 : Int32)))) = 0 then ((fX4_join (xs (Int32.toNatClampNeg (a4 + (1 : Int32)))) (xs (Int32.toNatClampNeg (a4 + (2 : Int32)))) (0 : Int32) σ).bind fun q4 =>
  (ps_ck (a4 + (1 : Int32)) L ((ps_ck (a4 + (2 : Int32)) L ((ps_ck (a4 + (3 : Int32)) L ((if (xs (Int32.toNatClampNeg (a4 + (3 : Int32)))) = 0 then ((fX5_join (xs (Int32.toNatClampNeg (a4 + (1 : Int32)))) (xs (Int32.toNatClampNeg (a4 + (2 : Int32)))) (0 : Int32) q4.2).bind fun q8 =>
  (if q4.1 = q8.1 then some q8.2
  else none))
  else ((fX5_join (xs (Int32.toNatClampNeg (a4 + (1 : Int32)))) (xs (Int32.toNatClampNeg (a4 + (2 : Int32)))) (1 : Int32) q4.2).bind fun q9 =>
  (if q4.1 = q9.1 then some q9.2
  else none))))))))))
  else ((fX4_join (xs (Int32.toNatClampNeg (a4 + (1 : Int32)))) (xs (Int32.toNatClampNeg (a4 + (2 : Int32)))) (1 : Int32) σ).bind fun q10 =>
  (ps_ck (a4 + (1 : Int32)) L ((ps_ck (a4 + (2 : Int32)) L ((ps_ck (a4 + (3 : Int32)) L ((if (xs (Int32.toNatClampNeg (a4 + (3 : Int32)))) = 0 then ((fX5_join (xs (Int32.toNatClampNeg (a4 + (1 : Int32)))) (xs (Int32.toNatClampNeg (a4 + (2 : Int32)))) (0 : Int32) q10.2).bind fun q14 =>
  (if q10.1 = q14.1 then some q14.2
  else none))
  else ((fX5_join (xs (Int32.toNatClampNeg (a4 + (1 : Int32)))) (xs (Int32.toNatClampNeg (a4 + (2 : Int32)))) (1 : Int32) q10.2).bind fun q15 =>
  (if q10.1 = q15.1 then some q15.2
  else none)))))))))))))))))
set_option maxHeartbeats 4000000 in
set_option maxRecDepth 100000 in
theorem tL_c26 {z : ps_X} (C : ps_C z cL_law 7 "PartSumsLaw") (Z : ps_Z z 19 604) (ZM : ps_Z (z_more z) 19 604) {b L : Nat} {xs : Nat → Int32} (X : ps_XS z b L xs) {a4 : Int32} {σ r : ps_S} (h : fL_c26 xs L a4 σ = some r) (k : ps_at (z_more z) 7 1364 [(0, .ref b), (1, .ref (z_ad z 0)), (2, .ref (z_ad z 45)), (3, .ref (z_ad z 59)), (4, .int a4)] [] r) : ps_at z 7 1162 [(0, .ref b), (1, .ref (z_ad z 0)), (2, .ref (z_ad z 45)), (3, .ref (z_ad z 59)), (4, .int a4)] [] σ := by
  unfold fL_c26 at h
  refine ps_aload_n C (pc := 1162) dL_law_1162 1 rfl ?_
  refine ps_aload_n C (pc := 1163) dL_law_1163 0 rfl ?_
  refine ps_iload C (pc := 1164) dL_law_1164 4 rfl ?_
  refine ps_iconst C (pc := 1166) (v := 1) dL_law_1166 (by decide) ?_
  refine ps_iadd C (pc := 1167) dL_law_1167 ?_
  obtain ⟨hi1, h⟩ := ps_ck_s h
  refine ps_sld C (pc := 1168) X hi1 dL_law_1168 ?_
  refine ps_aload_n C (pc := 1169) dL_law_1169 0 rfl ?_
  refine ps_iload C (pc := 1170) dL_law_1170 4 rfl ?_
  refine ps_iconst C (pc := 1172) (v := 2) dL_law_1172 (by decide) ?_
  refine ps_iadd C (pc := 1173) dL_law_1173 ?_
  obtain ⟨hi2, h⟩ := ps_ck_s h
  refine ps_sld C (pc := 1174) X hi2 dL_law_1174 ?_
  refine ps_aload_n C (pc := 1175) dL_law_1175 0 rfl ?_
  refine ps_iload C (pc := 1176) dL_law_1176 4 rfl ?_
  refine ps_iconst C (pc := 1178) (v := 3) dL_law_1178 (by decide) ?_
  refine ps_iadd C (pc := 1179) dL_law_1179 ?_
  obtain ⟨hi3, h⟩ := ps_ck_s h
  refine ps_sld C (pc := 1180) X hi3 dL_law_1180 ?_
  refine ps_if_eq C (pc := 1181) 1188 dL_law_1181 (by decide) (fun hc => ?_) (fun hc => ?_)
  · have h := ps_ift hc h
    refine ps_iconst C (pc := 1188) (v := 0) dL_law_1188 (by decide) ?_
    obtain ⟨q4, hq4, h⟩ := ps_bd h
    refine ps_callVI C Z (pc := 1189) (As := [.int (xs (Int32.toNatClampNeg (a4 + (1 : Int32)))), .int (xs (Int32.toNatClampNeg (a4 + (2 : Int32)))), .int (0 : Int32)]) (k0 := 0) (mX4_join  hq4) (Cn := "PartSums") rfl tw_626 tw_627 tw_628 tw_65 tw_629 hdX4_join rfl rfl ⟨by decide, by decide⟩ (by decide) ps_o0 rfl rfl (Nat.le_of_ble_eq_true rfl) dL_law_1189 rfl ?_
    refine ps_aload_n C (pc := 1192) dL_law_1192 2 rfl ?_
    refine ps_aload_n C (pc := 1193) dL_law_1193 0 rfl ?_
    refine ps_iload C (pc := 1194) dL_law_1194 4 rfl ?_
    refine ps_iconst C (pc := 1196) (v := 1) dL_law_1196 (by decide) ?_
    refine ps_iadd C (pc := 1197) dL_law_1197 ?_
    obtain ⟨hi5, h⟩ := ps_ck_s h
    refine ps_sld C (pc := 1198) X hi5 dL_law_1198 ?_
    refine ps_aload_n C (pc := 1199) dL_law_1199 0 rfl ?_
    refine ps_iload C (pc := 1200) dL_law_1200 4 rfl ?_
    refine ps_iconst C (pc := 1202) (v := 2) dL_law_1202 (by decide) ?_
    refine ps_iadd C (pc := 1203) dL_law_1203 ?_
    obtain ⟨hi6, h⟩ := ps_ck_s h
    refine ps_sld C (pc := 1204) X hi6 dL_law_1204 ?_
    refine ps_aload_n C (pc := 1205) dL_law_1205 0 rfl ?_
    refine ps_iload C (pc := 1206) dL_law_1206 4 rfl ?_
    refine ps_iconst C (pc := 1208) (v := 3) dL_law_1208 (by decide) ?_
    refine ps_iadd C (pc := 1209) dL_law_1209 ?_
    obtain ⟨hi7, h⟩ := ps_ck_s h
    refine ps_sld C (pc := 1210) X hi7 dL_law_1210 ?_
    refine ps_if_eq C (pc := 1211) 1218 dL_law_1211 (by decide) (fun hc => ?_) (fun hc => ?_)
    · have h := ps_ift hc h
      refine ps_iconst C (pc := 1218) (v := 0) dL_law_1218 (by decide) ?_
      obtain ⟨q8, hq8, h⟩ := ps_bd h
      refine ps_callVI C Z (pc := 1219) (As := [.int (xs (Int32.toNatClampNeg (a4 + (1 : Int32)))), .int (xs (Int32.toNatClampNeg (a4 + (2 : Int32)))), .int (0 : Int32)]) (k0 := 45) (mX5_join  hq8) (Cn := "PartSumsModel") rfl tw_1143 tw_1144 tw_1145 tw_70 tw_1146 hdX5_join rfl rfl ⟨by decide, by decide⟩ (by decide) ps_o45 rfl rfl (Nat.le_of_ble_eq_true rfl) dL_law_1219 rfl ?_
      refine ps_icmp_eq C (pc := 1222) 1364 dL_law_1222 (by decide) (fun hc => ?_) (fun hc => ?_)
      · have h := ps_ift hc h
        obtain rfl := Option.some.inj h
        exact ps_more (ps_sub [0, 1, 2, 3, 4] rfl k)
      · have h := ps_iff hc h
        cases h
    · have h := ps_iff hc h
      refine ps_iconst C (pc := 1214) (v := 1) dL_law_1214 (by decide) ?_
      refine ps_goto C (pc := 1215) 1219 dL_law_1215 (by decide) ?_
      obtain ⟨q9, hq9, h⟩ := ps_bd h
      refine ps_callVI C Z (pc := 1219) (As := [.int (xs (Int32.toNatClampNeg (a4 + (1 : Int32)))), .int (xs (Int32.toNatClampNeg (a4 + (2 : Int32)))), .int (1 : Int32)]) (k0 := 45) (mX5_join  hq9) (Cn := "PartSumsModel") rfl tw_1143 tw_1144 tw_1145 tw_70 tw_1146 hdX5_join rfl rfl ⟨by decide, by decide⟩ (by decide) ps_o45 rfl rfl (Nat.le_of_ble_eq_true rfl) dL_law_1219 rfl ?_
      refine ps_icmp_eq C (pc := 1222) 1364 dL_law_1222 (by decide) (fun hc => ?_) (fun hc => ?_)
      · have h := ps_ift hc h
        obtain rfl := Option.some.inj h
        exact ps_more (ps_sub [0, 1, 2, 3, 4] rfl k)
      · have h := ps_iff hc h
        cases h
  · have h := ps_iff hc h
    refine ps_iconst C (pc := 1184) (v := 1) dL_law_1184 (by decide) ?_
    refine ps_goto C (pc := 1185) 1189 dL_law_1185 (by decide) ?_
    obtain ⟨q10, hq10, h⟩ := ps_bd h
    refine ps_callVI C Z (pc := 1189) (As := [.int (xs (Int32.toNatClampNeg (a4 + (1 : Int32)))), .int (xs (Int32.toNatClampNeg (a4 + (2 : Int32)))), .int (1 : Int32)]) (k0 := 0) (mX4_join  hq10) (Cn := "PartSums") rfl tw_626 tw_627 tw_628 tw_65 tw_629 hdX4_join rfl rfl ⟨by decide, by decide⟩ (by decide) ps_o0 rfl rfl (Nat.le_of_ble_eq_true rfl) dL_law_1189 rfl ?_
    refine ps_aload_n C (pc := 1192) dL_law_1192 2 rfl ?_
    refine ps_aload_n C (pc := 1193) dL_law_1193 0 rfl ?_
    refine ps_iload C (pc := 1194) dL_law_1194 4 rfl ?_
    refine ps_iconst C (pc := 1196) (v := 1) dL_law_1196 (by decide) ?_
    refine ps_iadd C (pc := 1197) dL_law_1197 ?_
    obtain ⟨hi11, h⟩ := ps_ck_s h
    refine ps_sld C (pc := 1198) X hi11 dL_law_1198 ?_
    refine ps_aload_n C (pc := 1199) dL_law_1199 0 rfl ?_
    refine ps_iload C (pc := 1200) dL_law_1200 4 rfl ?_
    refine ps_iconst C (pc := 1202) (v := 2) dL_law_1202 (by decide) ?_
    refine ps_iadd C (pc := 1203) dL_law_1203 ?_
    obtain ⟨hi12, h⟩ := ps_ck_s h
    refine ps_sld C (pc := 1204) X hi12 dL_law_1204 ?_
    refine ps_aload_n C (pc := 1205) dL_law_1205 0 rfl ?_
    refine ps_iload C (pc := 1206) dL_law_1206 4 rfl ?_
    refine ps_iconst C (pc := 1208) (v := 3) dL_law_1208 (by decide) ?_
    refine ps_iadd C (pc := 1209) dL_law_1209 ?_
    obtain ⟨hi13, h⟩ := ps_ck_s h
    refine ps_sld C (pc := 1210) X hi13 dL_law_1210 ?_
    refine ps_if_eq C (pc := 1211) 1218 dL_law_1211 (by decide) (fun hc => ?_) (fun hc => ?_)
    · have h := ps_ift hc h
      refine ps_iconst C (pc := 1218) (v := 0) dL_law_1218 (by decide) ?_
      obtain ⟨q14, hq14, h⟩ := ps_bd h
      refine ps_callVI C Z (pc := 1219) (As := [.int (xs (Int32.toNatClampNeg (a4 + (1 : Int32)))), .int (xs (Int32.toNatClampNeg (a4 + (2 : Int32)))), .int (0 : Int32)]) (k0 := 45) (mX5_join  hq14) (Cn := "PartSumsModel") rfl tw_1143 tw_1144 tw_1145 tw_70 tw_1146 hdX5_join rfl rfl ⟨by decide, by decide⟩ (by decide) ps_o45 rfl rfl (Nat.le_of_ble_eq_true rfl) dL_law_1219 rfl ?_
      refine ps_icmp_eq C (pc := 1222) 1364 dL_law_1222 (by decide) (fun hc => ?_) (fun hc => ?_)
      · have h := ps_ift hc h
        obtain rfl := Option.some.inj h
        exact ps_more (ps_sub [0, 1, 2, 3, 4] rfl k)
      · have h := ps_iff hc h
        cases h
    · have h := ps_iff hc h
      refine ps_iconst C (pc := 1214) (v := 1) dL_law_1214 (by decide) ?_
      refine ps_goto C (pc := 1215) 1219 dL_law_1215 (by decide) ?_
      obtain ⟨q15, hq15, h⟩ := ps_bd h
      refine ps_callVI C Z (pc := 1219) (As := [.int (xs (Int32.toNatClampNeg (a4 + (1 : Int32)))), .int (xs (Int32.toNatClampNeg (a4 + (2 : Int32)))), .int (1 : Int32)]) (k0 := 45) (mX5_join  hq15) (Cn := "PartSumsModel") rfl tw_1143 tw_1144 tw_1145 tw_70 tw_1146 hdX5_join rfl rfl ⟨by decide, by decide⟩ (by decide) ps_o45 rfl rfl (Nat.le_of_ble_eq_true rfl) dL_law_1219 rfl ?_
      refine ps_icmp_eq C (pc := 1222) 1364 dL_law_1222 (by decide) (fun hc => ?_) (fun hc => ?_)
      · have h := ps_ift hc h
        obtain rfl := Option.some.inj h
        exact ps_more (ps_sub [0, 1, 2, 3, 4] rfl k)
      · have h := ps_iff hc h
        cases h
def fL_c27 (xs : Nat → Int32) (L : Nat) (a4 : Int32) (σ : ps_S) : Option ps_S :=
  (ps_ck (a4 + (1 : Int32)) L ((ps_ck (a4 + (2 : Int32)) L (((fX4_name (xs (Int32.toNatClampNeg (a4 + (1 : Int32)))) (xs (Int32.toNatClampNeg (a4 + (2 : Int32)))) σ).bind fun q3 =>
  (ps_ck (a4 + (1 : Int32)) L ((ps_ck (a4 + (2 : Int32)) L (((fX5_name (xs (Int32.toNatClampNeg (a4 + (1 : Int32)))) (xs (Int32.toNatClampNeg (a4 + (2 : Int32)))) q3.2).bind fun q6 =>
  (if q3.1 = q6.1 then some q6.2
  else none)))))))))))
set_option maxHeartbeats 4000000 in
set_option maxRecDepth 100000 in
theorem tL_c27 {z : ps_X} (C : ps_C z cL_law 7 "PartSumsLaw") (Z : ps_Z z 19 604) (ZM : ps_Z (z_more z) 19 604) {b L : Nat} {xs : Nat → Int32} (X : ps_XS z b L xs) {a4 : Int32} {σ r : ps_S} (h : fL_c27 xs L a4 σ = some r) (k : ps_at (z_more z) 7 1364 [(0, .ref b), (1, .ref (z_ad z 0)), (2, .ref (z_ad z 45)), (3, .ref (z_ad z 59)), (4, .int a4)] [] r) : ps_at z 7 1227 [(0, .ref b), (1, .ref (z_ad z 0)), (2, .ref (z_ad z 45)), (3, .ref (z_ad z 59)), (4, .int a4)] [] σ := by
  unfold fL_c27 at h
  refine ps_aload_n C (pc := 1227) dL_law_1227 1 rfl ?_
  refine ps_aload_n C (pc := 1228) dL_law_1228 0 rfl ?_
  refine ps_iload C (pc := 1229) dL_law_1229 4 rfl ?_
  refine ps_iconst C (pc := 1231) (v := 1) dL_law_1231 (by decide) ?_
  refine ps_iadd C (pc := 1232) dL_law_1232 ?_
  obtain ⟨hi1, h⟩ := ps_ck_s h
  refine ps_sld C (pc := 1233) X hi1 dL_law_1233 ?_
  refine ps_aload_n C (pc := 1234) dL_law_1234 0 rfl ?_
  refine ps_iload C (pc := 1235) dL_law_1235 4 rfl ?_
  refine ps_iconst C (pc := 1237) (v := 2) dL_law_1237 (by decide) ?_
  refine ps_iadd C (pc := 1238) dL_law_1238 ?_
  obtain ⟨hi2, h⟩ := ps_ck_s h
  refine ps_sld C (pc := 1239) X hi2 dL_law_1239 ?_
  obtain ⟨q3, hq3, h⟩ := ps_bd h
  refine ps_callVI C Z (pc := 1240) (As := [.int (xs (Int32.toNatClampNeg (a4 + (1 : Int32)))), .int (xs (Int32.toNatClampNeg (a4 + (2 : Int32))))]) (k0 := 0) (mX4_name  hq3) (Cn := "PartSums") rfl tw_639 tw_640 tw_641 tw_65 tw_642 hdX4_name rfl rfl ⟨by decide, by decide⟩ (by decide) ps_o0 rfl rfl (Nat.le_of_ble_eq_true rfl) dL_law_1240 rfl ?_
  refine ps_aload_n C (pc := 1243) dL_law_1243 2 rfl ?_
  refine ps_aload_n C (pc := 1244) dL_law_1244 0 rfl ?_
  refine ps_iload C (pc := 1245) dL_law_1245 4 rfl ?_
  refine ps_iconst C (pc := 1247) (v := 1) dL_law_1247 (by decide) ?_
  refine ps_iadd C (pc := 1248) dL_law_1248 ?_
  obtain ⟨hi4, h⟩ := ps_ck_s h
  refine ps_sld C (pc := 1249) X hi4 dL_law_1249 ?_
  refine ps_aload_n C (pc := 1250) dL_law_1250 0 rfl ?_
  refine ps_iload C (pc := 1251) dL_law_1251 4 rfl ?_
  refine ps_iconst C (pc := 1253) (v := 2) dL_law_1253 (by decide) ?_
  refine ps_iadd C (pc := 1254) dL_law_1254 ?_
  obtain ⟨hi5, h⟩ := ps_ck_s h
  refine ps_sld C (pc := 1255) X hi5 dL_law_1255 ?_
  obtain ⟨q6, hq6, h⟩ := ps_bd h
  refine ps_callVI C Z (pc := 1256) (As := [.int (xs (Int32.toNatClampNeg (a4 + (1 : Int32)))), .int (xs (Int32.toNatClampNeg (a4 + (2 : Int32))))]) (k0 := 45) (mX5_name  hq6) (Cn := "PartSumsModel") rfl tw_1147 tw_1148 tw_1149 tw_70 tw_1150 hdX5_name rfl rfl ⟨by decide, by decide⟩ (by decide) ps_o45 rfl rfl (Nat.le_of_ble_eq_true rfl) dL_law_1256 rfl ?_
  refine ps_icmp_eq C (pc := 1259) 1364 dL_law_1259 (by decide) (fun hc => ?_) (fun hc => ?_)
  · have h := ps_ift hc h
    obtain rfl := Option.some.inj h
    exact ps_more (ps_sub [0, 1, 2, 3, 4] rfl k)
  · have h := ps_iff hc h
    cases h
def fL_c28 (xs : Nat → Int32) (L : Nat) (a4 : Int32) (σ : ps_S) : Option ps_S :=
  (ps_ck (a4 + (1 : Int32)) L ((ps_ck (a4 + (2 : Int32)) L (((fX4_drawn (xs (Int32.toNatClampNeg (a4 + (1 : Int32)))) (xs (Int32.toNatClampNeg (a4 + (2 : Int32)))) σ).bind fun q3 =>
  (ps_ck (a4 + (1 : Int32)) L ((ps_ck (a4 + (2 : Int32)) L (((fX5_drawn (xs (Int32.toNatClampNeg (a4 + (1 : Int32)))) (xs (Int32.toNatClampNeg (a4 + (2 : Int32)))) q3.2).bind fun q6 =>
  (if q3.1 = q6.1 then some q6.2
  else none)))))))))))
set_option maxHeartbeats 4000000 in
set_option maxRecDepth 100000 in
theorem tL_c28 {z : ps_X} (C : ps_C z cL_law 7 "PartSumsLaw") (Z : ps_Z z 19 604) (ZM : ps_Z (z_more z) 19 604) {b L : Nat} {xs : Nat → Int32} (X : ps_XS z b L xs) {a4 : Int32} {σ r : ps_S} (h : fL_c28 xs L a4 σ = some r) (k : ps_at (z_more z) 7 1364 [(0, .ref b), (1, .ref (z_ad z 0)), (2, .ref (z_ad z 45)), (3, .ref (z_ad z 59)), (4, .int a4)] [] r) : ps_at z 7 1264 [(0, .ref b), (1, .ref (z_ad z 0)), (2, .ref (z_ad z 45)), (3, .ref (z_ad z 59)), (4, .int a4)] [] σ := by
  unfold fL_c28 at h
  refine ps_aload_n C (pc := 1264) dL_law_1264 1 rfl ?_
  refine ps_aload_n C (pc := 1265) dL_law_1265 0 rfl ?_
  refine ps_iload C (pc := 1266) dL_law_1266 4 rfl ?_
  refine ps_iconst C (pc := 1268) (v := 1) dL_law_1268 (by decide) ?_
  refine ps_iadd C (pc := 1269) dL_law_1269 ?_
  obtain ⟨hi1, h⟩ := ps_ck_s h
  refine ps_sld C (pc := 1270) X hi1 dL_law_1270 ?_
  refine ps_aload_n C (pc := 1271) dL_law_1271 0 rfl ?_
  refine ps_iload C (pc := 1272) dL_law_1272 4 rfl ?_
  refine ps_iconst C (pc := 1274) (v := 2) dL_law_1274 (by decide) ?_
  refine ps_iadd C (pc := 1275) dL_law_1275 ?_
  obtain ⟨hi2, h⟩ := ps_ck_s h
  refine ps_sld C (pc := 1276) X hi2 dL_law_1276 ?_
  obtain ⟨q3, hq3, h⟩ := ps_bd h
  refine ps_callVI C Z (pc := 1277) (As := [.int (xs (Int32.toNatClampNeg (a4 + (1 : Int32)))), .int (xs (Int32.toNatClampNeg (a4 + (2 : Int32))))]) (k0 := 0) (mX4_drawn  hq3) (Cn := "PartSums") rfl tw_657 tw_658 tw_659 tw_65 tw_660 hdX4_drawn rfl rfl ⟨by decide, by decide⟩ (by decide) ps_o0 rfl rfl (Nat.le_of_ble_eq_true rfl) dL_law_1277 rfl ?_
  refine ps_aload_n C (pc := 1280) dL_law_1280 2 rfl ?_
  refine ps_aload_n C (pc := 1281) dL_law_1281 0 rfl ?_
  refine ps_iload C (pc := 1282) dL_law_1282 4 rfl ?_
  refine ps_iconst C (pc := 1284) (v := 1) dL_law_1284 (by decide) ?_
  refine ps_iadd C (pc := 1285) dL_law_1285 ?_
  obtain ⟨hi4, h⟩ := ps_ck_s h
  refine ps_sld C (pc := 1286) X hi4 dL_law_1286 ?_
  refine ps_aload_n C (pc := 1287) dL_law_1287 0 rfl ?_
  refine ps_iload C (pc := 1288) dL_law_1288 4 rfl ?_
  refine ps_iconst C (pc := 1290) (v := 2) dL_law_1290 (by decide) ?_
  refine ps_iadd C (pc := 1291) dL_law_1291 ?_
  obtain ⟨hi5, h⟩ := ps_ck_s h
  refine ps_sld C (pc := 1292) X hi5 dL_law_1292 ?_
  obtain ⟨q6, hq6, h⟩ := ps_bd h
  refine ps_callVI C Z (pc := 1293) (As := [.int (xs (Int32.toNatClampNeg (a4 + (1 : Int32)))), .int (xs (Int32.toNatClampNeg (a4 + (2 : Int32))))]) (k0 := 45) (mX5_drawn  hq6) (Cn := "PartSumsModel") rfl tw_1158 tw_1159 tw_1160 tw_70 tw_1161 hdX5_drawn rfl rfl ⟨by decide, by decide⟩ (by decide) ps_o45 rfl rfl (Nat.le_of_ble_eq_true rfl) dL_law_1293 rfl ?_
  refine ps_icmp_eq C (pc := 1296) 1364 dL_law_1296 (by decide) (fun hc => ?_) (fun hc => ?_)
  · have h := ps_ift hc h
    obtain rfl := Option.some.inj h
    exact ps_more (ps_sub [0, 1, 2, 3, 4] rfl k)
  · have h := ps_iff hc h
    cases h
def fL_c29 (xs : Nat → Int32) (L : Nat) (a4 : Int32) (σ : ps_S) : Option ps_S :=
  ((fX4_undo σ).bind fun q1 =>
  ((fX5_undo q1.2).bind fun q2 =>
  (if q1.1 = q2.1 then some q2.2
  else none)))
set_option maxHeartbeats 4000000 in
set_option maxRecDepth 100000 in
theorem tL_c29 {z : ps_X} (C : ps_C z cL_law 7 "PartSumsLaw") (Z : ps_Z z 19 604) (ZM : ps_Z (z_more z) 19 604) {b L : Nat} {xs : Nat → Int32} (X : ps_XS z b L xs) {a4 : Int32} {σ r : ps_S} (h : fL_c29 xs L a4 σ = some r) (k : ps_at (z_more z) 7 1364 [(0, .ref b), (1, .ref (z_ad z 0)), (2, .ref (z_ad z 45)), (3, .ref (z_ad z 59)), (4, .int a4)] [] r) : ps_at z 7 1301 [(0, .ref b), (1, .ref (z_ad z 0)), (2, .ref (z_ad z 45)), (3, .ref (z_ad z 59)), (4, .int a4)] [] σ := by
  unfold fL_c29 at h
  refine ps_aload_n C (pc := 1301) dL_law_1301 1 rfl ?_
  obtain ⟨q1, hq1, h⟩ := ps_bd h
  refine ps_callVI C Z (pc := 1302) (As := []) (k0 := 0) (mX4_undo  hq1) (Cn := "PartSums") rfl tw_672 tw_673 tw_674 tw_65 tw_675 hdX4_undo rfl rfl ⟨by decide, by decide⟩ (by decide) ps_o0 rfl rfl (Nat.le_of_ble_eq_true rfl) dL_law_1302 rfl ?_
  refine ps_aload_n C (pc := 1305) dL_law_1305 2 rfl ?_
  obtain ⟨q2, hq2, h⟩ := ps_bd h
  refine ps_callVI C Z (pc := 1306) (As := []) (k0 := 45) (mX5_undo  hq2) (Cn := "PartSumsModel") rfl tw_1171 tw_1172 tw_1173 tw_70 tw_1174 hdX5_undo rfl rfl ⟨by decide, by decide⟩ (by decide) ps_o45 rfl rfl (Nat.le_of_ble_eq_true rfl) dL_law_1306 rfl ?_
  refine ps_icmp_eq C (pc := 1309) 1364 dL_law_1309 (by decide) (fun hc => ?_) (fun hc => ?_)
  · have h := ps_ift hc h
    obtain rfl := Option.some.inj h
    exact ps_more (ps_sub [0, 1, 2, 3, 4] rfl k)
  · have h := ps_iff hc h
    cases h
def fL_c30 (xs : Nat → Int32) (L : Nat) (a4 : Int32) (σ : ps_S) : Option ps_S :=
  (ps_ck (a4 + (1 : Int32)) L (((fX4_image (xs (Int32.toNatClampNeg (a4 + (1 : Int32)))) σ).bind fun q2 =>
  (ps_ck (a4 + (1 : Int32)) L (((fX5_image (xs (Int32.toNatClampNeg (a4 + (1 : Int32)))) q2.2).bind fun q4 =>
  (if q2.1 = q4.1 then some q4.2
  else none)))))))
set_option maxHeartbeats 4000000 in
set_option maxRecDepth 100000 in
theorem tL_c30 {z : ps_X} (C : ps_C z cL_law 7 "PartSumsLaw") (Z : ps_Z z 19 604) (ZM : ps_Z (z_more z) 19 604) {b L : Nat} {xs : Nat → Int32} (X : ps_XS z b L xs) {a4 : Int32} {σ r : ps_S} (h : fL_c30 xs L a4 σ = some r) (k : ps_at (z_more z) 7 1364 [(0, .ref b), (1, .ref (z_ad z 0)), (2, .ref (z_ad z 45)), (3, .ref (z_ad z 59)), (4, .int a4)] [] r) : ps_at z 7 1314 [(0, .ref b), (1, .ref (z_ad z 0)), (2, .ref (z_ad z 45)), (3, .ref (z_ad z 59)), (4, .int a4)] [] σ := by
  unfold fL_c30 at h
  refine ps_aload_n C (pc := 1314) dL_law_1314 1 rfl ?_
  refine ps_aload_n C (pc := 1315) dL_law_1315 0 rfl ?_
  refine ps_iload C (pc := 1316) dL_law_1316 4 rfl ?_
  refine ps_iconst C (pc := 1318) (v := 1) dL_law_1318 (by decide) ?_
  refine ps_iadd C (pc := 1319) dL_law_1319 ?_
  obtain ⟨hi1, h⟩ := ps_ck_s h
  refine ps_sld C (pc := 1320) X hi1 dL_law_1320 ?_
  obtain ⟨q2, hq2, h⟩ := ps_bd h
  refine ps_callVI C Z (pc := 1321) (As := [.int (xs (Int32.toNatClampNeg (a4 + (1 : Int32))))]) (k0 := 0) (mX4_image  hq2) (Cn := "PartSums") rfl tw_681 tw_682 tw_683 tw_65 tw_684 hdX4_image rfl rfl ⟨by decide, by decide⟩ (by decide) ps_o0 rfl rfl (Nat.le_of_ble_eq_true rfl) dL_law_1321 rfl ?_
  refine ps_aload_n C (pc := 1324) dL_law_1324 2 rfl ?_
  refine ps_aload_n C (pc := 1325) dL_law_1325 0 rfl ?_
  refine ps_iload C (pc := 1326) dL_law_1326 4 rfl ?_
  refine ps_iconst C (pc := 1328) (v := 1) dL_law_1328 (by decide) ?_
  refine ps_iadd C (pc := 1329) dL_law_1329 ?_
  obtain ⟨hi3, h⟩ := ps_ck_s h
  refine ps_sld C (pc := 1330) X hi3 dL_law_1330 ?_
  obtain ⟨q4, hq4, h⟩ := ps_bd h
  refine ps_callVI C Z (pc := 1331) (As := [.int (xs (Int32.toNatClampNeg (a4 + (1 : Int32))))]) (k0 := 45) (mX5_image  hq4) (Cn := "PartSumsModel") rfl tw_1175 tw_1176 tw_1177 tw_70 tw_1178 hdX5_image rfl rfl ⟨by decide, by decide⟩ (by decide) ps_o45 rfl rfl (Nat.le_of_ble_eq_true rfl) dL_law_1331 rfl ?_
  refine ps_icmp_eq C (pc := 1334) 1364 dL_law_1334 (by decide) (fun hc => ?_) (fun hc => ?_)
  · have h := ps_ift hc h
    obtain rfl := Option.some.inj h
    exact ps_more (ps_sub [0, 1, 2, 3, 4] rfl k)
  · have h := ps_iff hc h
    cases h
def fL_c31 (xs : Nat → Int32) (L : Nat) (a4 : Int32) (σ : ps_S) : Option ps_S :=
  (ps_ck (a4 + (1 : Int32)) L (((fX4_restore (xs (Int32.toNatClampNeg (a4 + (1 : Int32)))) σ).bind fun q2 =>
  (ps_ck (a4 + (1 : Int32)) L (((fX5_restore (xs (Int32.toNatClampNeg (a4 + (1 : Int32)))) q2.2).bind fun q4 =>
  (if q2.1 = q4.1 then some q4.2
  else none)))))))
set_option maxHeartbeats 4000000 in
set_option maxRecDepth 100000 in
theorem tL_c31 {z : ps_X} (C : ps_C z cL_law 7 "PartSumsLaw") (Z : ps_Z z 19 604) (ZM : ps_Z (z_more z) 19 604) {b L : Nat} {xs : Nat → Int32} (X : ps_XS z b L xs) {a4 : Int32} {σ r : ps_S} (h : fL_c31 xs L a4 σ = some r) (k : ps_at (z_more z) 7 1364 [(0, .ref b), (1, .ref (z_ad z 0)), (2, .ref (z_ad z 45)), (3, .ref (z_ad z 59)), (4, .int a4)] [] r) : ps_at z 7 1339 [(0, .ref b), (1, .ref (z_ad z 0)), (2, .ref (z_ad z 45)), (3, .ref (z_ad z 59)), (4, .int a4)] [] σ := by
  unfold fL_c31 at h
  refine ps_aload_n C (pc := 1339) dL_law_1339 1 rfl ?_
  refine ps_aload_n C (pc := 1340) dL_law_1340 0 rfl ?_
  refine ps_iload C (pc := 1341) dL_law_1341 4 rfl ?_
  refine ps_iconst C (pc := 1343) (v := 1) dL_law_1343 (by decide) ?_
  refine ps_iadd C (pc := 1344) dL_law_1344 ?_
  obtain ⟨hi1, h⟩ := ps_ck_s h
  refine ps_sld C (pc := 1345) X hi1 dL_law_1345 ?_
  obtain ⟨q2, hq2, h⟩ := ps_bd h
  refine ps_callVI C Z (pc := 1346) (As := [.int (xs (Int32.toNatClampNeg (a4 + (1 : Int32))))]) (k0 := 0) (mX4_restore  hq2) (Cn := "PartSums") rfl tw_689 tw_690 tw_691 tw_65 tw_692 hdX4_restore rfl rfl ⟨by decide, by decide⟩ (by decide) ps_o0 rfl rfl (Nat.le_of_ble_eq_true rfl) dL_law_1346 rfl ?_
  refine ps_aload_n C (pc := 1349) dL_law_1349 2 rfl ?_
  refine ps_aload_n C (pc := 1350) dL_law_1350 0 rfl ?_
  refine ps_iload C (pc := 1351) dL_law_1351 4 rfl ?_
  refine ps_iconst C (pc := 1353) (v := 1) dL_law_1353 (by decide) ?_
  refine ps_iadd C (pc := 1354) dL_law_1354 ?_
  obtain ⟨hi3, h⟩ := ps_ck_s h
  refine ps_sld C (pc := 1355) X hi3 dL_law_1355 ?_
  obtain ⟨q4, hq4, h⟩ := ps_bd h
  refine ps_callVI C Z (pc := 1356) (As := [.int (xs (Int32.toNatClampNeg (a4 + (1 : Int32))))]) (k0 := 45) (mX5_restore  hq4) (Cn := "PartSumsModel") rfl tw_1179 tw_1180 tw_1181 tw_70 tw_1182 hdX5_restore rfl rfl ⟨by decide, by decide⟩ (by decide) ps_o45 rfl rfl (Nat.le_of_ble_eq_true rfl) dL_law_1356 rfl ?_
  refine ps_icmp_eq C (pc := 1359) 1364 dL_law_1359 (by decide) (fun hc => ?_) (fun hc => ?_)
  · have h := ps_ift hc h
    obtain rfl := Option.some.inj h
    exact ps_more (ps_sub [0, 1, 2, 3, 4] rfl k)
  · have h := ps_iff hc h
    cases h
def fL_do (xs : Nat → Int32) (L : Nat) (a4 : Int32) (σ : ps_S) : Option ps_S :=
  ps_ck a4 L (if ((xs (Int32.toNatClampNeg a4)) &&& (31 : Int32)) = (0 : Int32) then fL_c0 xs L a4 σ else if ((xs (Int32.toNatClampNeg a4)) &&& (31 : Int32)) = (1 : Int32) then fL_c1 xs L a4 σ else if ((xs (Int32.toNatClampNeg a4)) &&& (31 : Int32)) = (2 : Int32) then fL_c2 xs L a4 σ else if ((xs (Int32.toNatClampNeg a4)) &&& (31 : Int32)) = (3 : Int32) then fL_c3 xs L a4 σ else if ((xs (Int32.toNatClampNeg a4)) &&& (31 : Int32)) = (4 : Int32) then fL_c4 xs L a4 σ else if ((xs (Int32.toNatClampNeg a4)) &&& (31 : Int32)) = (5 : Int32) then fL_c5 xs L a4 σ else if ((xs (Int32.toNatClampNeg a4)) &&& (31 : Int32)) = (6 : Int32) then fL_c6 xs L a4 σ else if ((xs (Int32.toNatClampNeg a4)) &&& (31 : Int32)) = (7 : Int32) then fL_c7 xs L a4 σ else if ((xs (Int32.toNatClampNeg a4)) &&& (31 : Int32)) = (8 : Int32) then fL_c8 xs L a4 σ else if ((xs (Int32.toNatClampNeg a4)) &&& (31 : Int32)) = (9 : Int32) then fL_c9 xs L a4 σ else if ((xs (Int32.toNatClampNeg a4)) &&& (31 : Int32)) = (10 : Int32) then fL_c10 xs L a4 σ else if ((xs (Int32.toNatClampNeg a4)) &&& (31 : Int32)) = (11 : Int32) then fL_c11 xs L a4 σ else if ((xs (Int32.toNatClampNeg a4)) &&& (31 : Int32)) = (12 : Int32) then fL_c12 xs L a4 σ else if ((xs (Int32.toNatClampNeg a4)) &&& (31 : Int32)) = (13 : Int32) then fL_c13 xs L a4 σ else if ((xs (Int32.toNatClampNeg a4)) &&& (31 : Int32)) = (14 : Int32) then fL_c14 xs L a4 σ else if ((xs (Int32.toNatClampNeg a4)) &&& (31 : Int32)) = (15 : Int32) then fL_c15 xs L a4 σ else if ((xs (Int32.toNatClampNeg a4)) &&& (31 : Int32)) = (16 : Int32) then fL_c16 xs L a4 σ else if ((xs (Int32.toNatClampNeg a4)) &&& (31 : Int32)) = (17 : Int32) then fL_c17 xs L a4 σ else if ((xs (Int32.toNatClampNeg a4)) &&& (31 : Int32)) = (18 : Int32) then fL_c18 xs L a4 σ else if ((xs (Int32.toNatClampNeg a4)) &&& (31 : Int32)) = (19 : Int32) then fL_c19 xs L a4 σ else if ((xs (Int32.toNatClampNeg a4)) &&& (31 : Int32)) = (20 : Int32) then fL_c20 xs L a4 σ else if ((xs (Int32.toNatClampNeg a4)) &&& (31 : Int32)) = (21 : Int32) then fL_c21 xs L a4 σ else if ((xs (Int32.toNatClampNeg a4)) &&& (31 : Int32)) = (22 : Int32) then fL_c22 xs L a4 σ else if ((xs (Int32.toNatClampNeg a4)) &&& (31 : Int32)) = (23 : Int32) then fL_c23 xs L a4 σ else if ((xs (Int32.toNatClampNeg a4)) &&& (31 : Int32)) = (24 : Int32) then fL_c24 xs L a4 σ else if ((xs (Int32.toNatClampNeg a4)) &&& (31 : Int32)) = (25 : Int32) then fL_c25 xs L a4 σ else if ((xs (Int32.toNatClampNeg a4)) &&& (31 : Int32)) = (26 : Int32) then fL_c26 xs L a4 σ else if ((xs (Int32.toNatClampNeg a4)) &&& (31 : Int32)) = (27 : Int32) then fL_c27 xs L a4 σ else if ((xs (Int32.toNatClampNeg a4)) &&& (31 : Int32)) = (28 : Int32) then fL_c28 xs L a4 σ else if ((xs (Int32.toNatClampNeg a4)) &&& (31 : Int32)) = (29 : Int32) then fL_c29 xs L a4 σ else if ((xs (Int32.toNatClampNeg a4)) &&& (31 : Int32)) = (30 : Int32) then fL_c30 xs L a4 σ else if ((xs (Int32.toNatClampNeg a4)) &&& (31 : Int32)) = (31 : Int32) then fL_c31 xs L a4 σ else none)
set_option maxHeartbeats 4000000 in
set_option maxRecDepth 100000 in
theorem tL_do {z : ps_X} (C : ps_C z cL_law 7 "PartSumsLaw") (Z : ps_Z z 19 604) (ZM : ps_Z (z_more z) 19 604) {b L : Nat} {xs : Nat → Int32} (X : ps_XS z b L xs) (hp : ps_PartOk z) {a4 : Int32} {σ r : ps_S} (h : fL_do xs L a4 σ = some r) (k : ps_at (z_more z) 7 1364 [(0, .ref b), (1, .ref (z_ad z 0)), (2, .ref (z_ad z 45)), (3, .ref (z_ad z 59)), (4, .int a4)] [] r) : ps_at z 7 33 [(0, .ref b), (1, .ref (z_ad z 0)), (2, .ref (z_ad z 45)), (3, .ref (z_ad z 59)), (4, .int a4)] [] σ := by
  unfold fL_do at h
  obtain ⟨hi, h⟩ := ps_ck_s h
  refine ps_aload_n C (pc := 33) dL_law_33 0 rfl ?_
  refine ps_iload C (pc := 34) dL_law_34 4 rfl ?_
  refine ps_sld C (pc := 36) X hi dL_law_36 ?_
  refine ps_bipush C (pc := 37) (v := 31) dL_law_37 (by decide) ?_
  refine ps_iand C (pc := 39) dL_law_39 ?_
  by_cases hc0 : ((xs (Int32.toNatClampNeg a4)) &&& (31 : Int32)) = (0 : Int32)
  · have h := ps_ift hc0 h
    refine ps_tsw C (pc := 40) 0 hc0 184 dL_law_40 (by decide) (by decide) (by rfl) (by decide) ?_
    exact tL_c0 C Z ZM X h k
  replace h := ps_iff hc0 h
  by_cases hc1 : ((xs (Int32.toNatClampNeg a4)) &&& (31 : Int32)) = (1 : Int32)
  · have h := ps_ift hc1 h
    refine ps_tsw C (pc := 40) 1 hc1 257 dL_law_40 (by decide) (by decide) (by rfl) (by decide) ?_
    exact tL_c1 C Z ZM X h k
  replace h := ps_iff hc1 h
  by_cases hc2 : ((xs (Int32.toNatClampNeg a4)) &&& (31 : Int32)) = (2 : Int32)
  · have h := ps_ift hc2 h
    refine ps_tsw C (pc := 40) 2 hc2 282 dL_law_40 (by decide) (by decide) (by rfl) (by decide) ?_
    exact tL_c2 C Z ZM X h k
  replace h := ps_iff hc2 h
  by_cases hc3 : ((xs (Int32.toNatClampNeg a4)) &&& (31 : Int32)) = (3 : Int32)
  · have h := ps_ift hc3 h
    refine ps_tsw C (pc := 40) 3 hc3 295 dL_law_40 (by decide) (by decide) (by rfl) (by decide) ?_
    exact tL_c3 C Z ZM X h k
  replace h := ps_iff hc3 h
  by_cases hc4 : ((xs (Int32.toNatClampNeg a4)) &&& (31 : Int32)) = (4 : Int32)
  · have h := ps_ift hc4 h
    refine ps_tsw C (pc := 40) 4 hc4 308 dL_law_40 (by decide) (by decide) (by rfl) (by decide) ?_
    exact tL_c4 C Z ZM X h k
  replace h := ps_iff hc4 h
  by_cases hc5 : ((xs (Int32.toNatClampNeg a4)) &&& (31 : Int32)) = (5 : Int32)
  · have h := ps_ift hc5 h
    refine ps_tsw C (pc := 40) 5 hc5 333 dL_law_40 (by decide) (by decide) (by rfl) (by decide) ?_
    exact tL_c5 C Z ZM X h k
  replace h := ps_iff hc5 h
  by_cases hc6 : ((xs (Int32.toNatClampNeg a4)) &&& (31 : Int32)) = (6 : Int32)
  · have h := ps_ift hc6 h
    refine ps_tsw C (pc := 40) 6 hc6 358 dL_law_40 (by decide) (by decide) (by rfl) (by decide) ?_
    exact tL_c6 C Z ZM X h k
  replace h := ps_iff hc6 h
  by_cases hc7 : ((xs (Int32.toNatClampNeg a4)) &&& (31 : Int32)) = (7 : Int32)
  · have h := ps_ift hc7 h
    refine ps_tsw C (pc := 40) 7 hc7 383 dL_law_40 (by decide) (by decide) (by rfl) (by decide) ?_
    exact tL_c7 C Z ZM X h k
  replace h := ps_iff hc7 h
  by_cases hc8 : ((xs (Int32.toNatClampNeg a4)) &&& (31 : Int32)) = (8 : Int32)
  · have h := ps_ift hc8 h
    refine ps_tsw C (pc := 40) 8 hc8 420 dL_law_40 (by decide) (by decide) (by rfl) (by decide) ?_
    exact tL_c8 C Z ZM X h k
  replace h := ps_iff hc8 h
  by_cases hc9 : ((xs (Int32.toNatClampNeg a4)) &&& (31 : Int32)) = (9 : Int32)
  · have h := ps_ift hc9 h
    refine ps_tsw C (pc := 40) 9 hc9 469 dL_law_40 (by decide) (by decide) (by rfl) (by decide) ?_
    exact tL_c9 C Z ZM X h k
  replace h := ps_iff hc9 h
  by_cases hc10 : ((xs (Int32.toNatClampNeg a4)) &&& (31 : Int32)) = (10 : Int32)
  · have h := ps_ift hc10 h
    refine ps_tsw C (pc := 40) 10 hc10 506 dL_law_40 (by decide) (by decide) (by rfl) (by decide) ?_
    exact tL_c10 C Z ZM X h k
  replace h := ps_iff hc10 h
  by_cases hc11 : ((xs (Int32.toNatClampNeg a4)) &&& (31 : Int32)) = (11 : Int32)
  · have h := ps_ift hc11 h
    refine ps_tsw C (pc := 40) 11 hc11 559 dL_law_40 (by decide) (by decide) (by rfl) (by decide) ?_
    exact tL_c11 C Z ZM X h k
  replace h := ps_iff hc11 h
  by_cases hc12 : ((xs (Int32.toNatClampNeg a4)) &&& (31 : Int32)) = (12 : Int32)
  · have h := ps_ift hc12 h
    refine ps_tsw C (pc := 40) 12 hc12 612 dL_law_40 (by decide) (by decide) (by rfl) (by decide) ?_
    exact tL_c12 C Z ZM X h k
  replace h := ps_iff hc12 h
  by_cases hc13 : ((xs (Int32.toNatClampNeg a4)) &&& (31 : Int32)) = (13 : Int32)
  · have h := ps_ift hc13 h
    refine ps_tsw C (pc := 40) 13 hc13 673 dL_law_40 (by decide) (by decide) (by rfl) (by decide) ?_
    exact tL_c13 C Z ZM X h k
  replace h := ps_iff hc13 h
  by_cases hc14 : ((xs (Int32.toNatClampNeg a4)) &&& (31 : Int32)) = (14 : Int32)
  · have h := ps_ift hc14 h
    refine ps_tsw C (pc := 40) 14 hc14 722 dL_law_40 (by decide) (by decide) (by rfl) (by decide) ?_
    exact tL_c14 C Z ZM X h k
  replace h := ps_iff hc14 h
  by_cases hc15 : ((xs (Int32.toNatClampNeg a4)) &&& (31 : Int32)) = (15 : Int32)
  · have h := ps_ift hc15 h
    refine ps_tsw C (pc := 40) 15 hc15 759 dL_law_40 (by decide) (by decide) (by rfl) (by decide) ?_
    exact tL_c15 C Z ZM X h k
  replace h := ps_iff hc15 h
  by_cases hc16 : ((xs (Int32.toNatClampNeg a4)) &&& (31 : Int32)) = (16 : Int32)
  · have h := ps_ift hc16 h
    refine ps_tsw C (pc := 40) 16 hc16 796 dL_law_40 (by decide) (by decide) (by rfl) (by decide) ?_
    exact tL_c16 C Z ZM X h k
  replace h := ps_iff hc16 h
  by_cases hc17 : ((xs (Int32.toNatClampNeg a4)) &&& (31 : Int32)) = (17 : Int32)
  · have h := ps_ift hc17 h
    refine ps_tsw C (pc := 40) 17 hc17 833 dL_law_40 (by decide) (by decide) (by rfl) (by decide) ?_
    exact tL_c17 C Z ZM X h k
  replace h := ps_iff hc17 h
  by_cases hc18 : ((xs (Int32.toNatClampNeg a4)) &&& (31 : Int32)) = (18 : Int32)
  · have h := ps_ift hc18 h
    refine ps_tsw C (pc := 40) 18 hc18 870 dL_law_40 (by decide) (by decide) (by rfl) (by decide) ?_
    exact tL_c18 C Z ZM X h k
  replace h := ps_iff hc18 h
  by_cases hc19 : ((xs (Int32.toNatClampNeg a4)) &&& (31 : Int32)) = (19 : Int32)
  · have h := ps_ift hc19 h
    refine ps_tsw C (pc := 40) 19 hc19 907 dL_law_40 (by decide) (by decide) (by rfl) (by decide) ?_
    exact tL_c19 C Z ZM X h k
  replace h := ps_iff hc19 h
  by_cases hc20 : ((xs (Int32.toNatClampNeg a4)) &&& (31 : Int32)) = (20 : Int32)
  · have h := ps_ift hc20 h
    refine ps_tsw C (pc := 40) 20 hc20 932 dL_law_40 (by decide) (by decide) (by rfl) (by decide) ?_
    exact tL_c20 C Z ZM X hp h k
  replace h := ps_iff hc20 h
  by_cases hc21 : ((xs (Int32.toNatClampNeg a4)) &&& (31 : Int32)) = (21 : Int32)
  · have h := ps_ift hc21 h
    refine ps_tsw C (pc := 40) 21 hc21 1000 dL_law_40 (by decide) (by decide) (by rfl) (by decide) ?_
    exact tL_c21 C Z ZM X h k
  replace h := ps_iff hc21 h
  by_cases hc22 : ((xs (Int32.toNatClampNeg a4)) &&& (31 : Int32)) = (22 : Int32)
  · have h := ps_ift hc22 h
    refine ps_tsw C (pc := 40) 22 hc22 1025 dL_law_40 (by decide) (by decide) (by rfl) (by decide) ?_
    exact tL_c22 C Z ZM X h k
  replace h := ps_iff hc22 h
  by_cases hc23 : ((xs (Int32.toNatClampNeg a4)) &&& (31 : Int32)) = (23 : Int32)
  · have h := ps_ift hc23 h
    refine ps_tsw C (pc := 40) 23 hc23 1062 dL_law_40 (by decide) (by decide) (by rfl) (by decide) ?_
    exact tL_c23 C Z ZM X h k
  replace h := ps_iff hc23 h
  by_cases hc24 : ((xs (Int32.toNatClampNeg a4)) &&& (31 : Int32)) = (24 : Int32)
  · have h := ps_ift hc24 h
    refine ps_tsw C (pc := 40) 24 hc24 1100 dL_law_40 (by decide) (by decide) (by rfl) (by decide) ?_
    exact tL_c24 C Z ZM X h k
  replace h := ps_iff hc24 h
  by_cases hc25 : ((xs (Int32.toNatClampNeg a4)) &&& (31 : Int32)) = (25 : Int32)
  · have h := ps_ift hc25 h
    refine ps_tsw C (pc := 40) 25 hc25 1125 dL_law_40 (by decide) (by decide) (by rfl) (by decide) ?_
    exact tL_c25 C Z ZM X h k
  replace h := ps_iff hc25 h
  by_cases hc26 : ((xs (Int32.toNatClampNeg a4)) &&& (31 : Int32)) = (26 : Int32)
  · have h := ps_ift hc26 h
    refine ps_tsw C (pc := 40) 26 hc26 1162 dL_law_40 (by decide) (by decide) (by rfl) (by decide) ?_
    exact tL_c26 C Z ZM X h k
  replace h := ps_iff hc26 h
  by_cases hc27 : ((xs (Int32.toNatClampNeg a4)) &&& (31 : Int32)) = (27 : Int32)
  · have h := ps_ift hc27 h
    refine ps_tsw C (pc := 40) 27 hc27 1227 dL_law_40 (by decide) (by decide) (by rfl) (by decide) ?_
    exact tL_c27 C Z ZM X h k
  replace h := ps_iff hc27 h
  by_cases hc28 : ((xs (Int32.toNatClampNeg a4)) &&& (31 : Int32)) = (28 : Int32)
  · have h := ps_ift hc28 h
    refine ps_tsw C (pc := 40) 28 hc28 1264 dL_law_40 (by decide) (by decide) (by rfl) (by decide) ?_
    exact tL_c28 C Z ZM X h k
  replace h := ps_iff hc28 h
  by_cases hc29 : ((xs (Int32.toNatClampNeg a4)) &&& (31 : Int32)) = (29 : Int32)
  · have h := ps_ift hc29 h
    refine ps_tsw C (pc := 40) 29 hc29 1301 dL_law_40 (by decide) (by decide) (by rfl) (by decide) ?_
    exact tL_c29 C Z ZM X h k
  replace h := ps_iff hc29 h
  by_cases hc30 : ((xs (Int32.toNatClampNeg a4)) &&& (31 : Int32)) = (30 : Int32)
  · have h := ps_ift hc30 h
    refine ps_tsw C (pc := 40) 30 hc30 1314 dL_law_40 (by decide) (by decide) (by rfl) (by decide) ?_
    exact tL_c30 C Z ZM X h k
  replace h := ps_iff hc30 h
  by_cases hc31 : ((xs (Int32.toNatClampNeg a4)) &&& (31 : Int32)) = (31 : Int32)
  · have h := ps_ift hc31 h
    refine ps_tsw C (pc := 40) 31 hc31 1339 dL_law_40 (by decide) (by decide) (by rfl) (by decide) ?_
    exact tL_c31 C Z ZM X h k
  replace h := ps_iff hc31 h
  cases h
