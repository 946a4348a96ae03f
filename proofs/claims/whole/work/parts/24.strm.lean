section PSU
variable {z : ps_X} {cc : ByteArray} {nL : Nat} {own : String} {pc : Nat} {lv lv' : List (Nat × Value)} {st st0 : List Value} {σ σ' : ps_S}
theorem ps_i2c (C : ps_C z cc nL own) {x v : Int32} (d : decode cc pc = .ok (.i2c, 1)) (hv : (x.toUInt32 % 65536).toInt32 = v) (k : ps_at z nL (pc + 1) lv (.int v :: st) σ) : ps_at z nL pc lv (.int x :: st) σ := fun H locs ls hP hS hl => lv_i2c C.1.1 C.1.2.1 d hv (k H locs ls hP hS hl)
theorem ps_aload_nV (C : ps_C z cc nL own) {k : Fin 4} {x : Option Nat} (d : decode cc pc = .ok (.aload_n k, 1)) (q : Nat) (hq : lv[q]? = some ((k : Nat), va_rf x)) (kk : ps_at z nL (pc + 1) lv (va_rf x :: st) σ) : ps_at z nL pc lv st σ := by
  cases x with
  | none => exact fun H locs ls hP hS hl => lv_aload_nN C.1.1 C.1.2.1 d rfl (lv_at hl q hq) (kk H locs ls hP hS hl)
  | some t => exact ps_aload_n C d q hq kk
theorem ps_num {x y : Int32} (e : x = y) (kk : ps_at z nL pc lv (.int y :: st) σ) : ps_at z nL pc lv (.int x :: st) σ := by rw [e]; exact kk
end PSU
def ps_ch (i : Nat) (j : Int32) : Int32 := (ps_tb.getD i []).getD j.toNatClampNeg 0 &&& 255
def rmT0 : Room := { frames := 0, cells := 0, slots := 0, locals := 0 }
def rmT1 : Room := { frames := 1, cells := 0, slots := 0, locals := 22 }
def rmT2 : Room := { frames := 2, cells := 0, slots := 0, locals := 43 }
def rmT3 : Room := { frames := 3, cells := 0, slots := 0, locals := 70 }
theorem hdJ0_coder_7d493 : yJ0_coder_7d493.cls ≠ "java/lang/invoke/MethodHandle" ∧ yJ0_coder_7d493.cls ≠ "java/lang/invoke/VarHandle" ∧ (parseMethodDescriptor yJ0_coder_7d493.desc).map (fun d => d.parameters.length) = some 0 := by decide +kernel
theorem hdJ0_length_8abf5 : yJ0_length_8abf5.cls ≠ "java/lang/invoke/MethodHandle" ∧ yJ0_length_8abf5.cls ≠ "java/lang/invoke/VarHandle" ∧ (parseMethodDescriptor yJ0_length_8abf5.desc).map (fun d => d.parameters.length) = some 0 := by decide +kernel
theorem hdJ0_isLatin1_aae02 : yJ0_isLatin1_aae02.cls ≠ "java/lang/invoke/MethodHandle" ∧ yJ0_isLatin1_aae02.cls ≠ "java/lang/invoke/VarHandle" ∧ (parseMethodDescriptor yJ0_isLatin1_aae02.desc).map (fun d => d.parameters.length) = some 0 := by decide +kernel
theorem hdJ0_checkIndex_df160 : yJ0_checkIndex_df160.cls ≠ "java/lang/invoke/MethodHandle" ∧ yJ0_checkIndex_df160.cls ≠ "java/lang/invoke/VarHandle" ∧ (parseMethodDescriptor yJ0_checkIndex_df160.desc).map (fun d => d.parameters.length) = some 2 := by decide +kernel
theorem hdJ1_charAt_3b067 : yJ1_charAt_3b067.cls ≠ "java/lang/invoke/MethodHandle" ∧ yJ1_charAt_3b067.cls ≠ "java/lang/invoke/VarHandle" ∧ (parseMethodDescriptor yJ1_charAt_3b067.desc).map (fun d => d.parameters.length) = some 2 := by decide +kernel
theorem hdJ0_charAt_5068e : yJ0_charAt_5068e.cls ≠ "java/lang/invoke/MethodHandle" ∧ yJ0_charAt_5068e.cls ≠ "java/lang/invoke/VarHandle" ∧ (parseMethodDescriptor yJ0_charAt_5068e.desc).map (fun d => d.parameters.length) = some 1 := by decide +kernel
theorem hdJ3_checkIndex_8e157 : yJ3_checkIndex_8e157.cls ≠ "java/lang/invoke/MethodHandle" ∧ yJ3_checkIndex_8e157.cls ≠ "java/lang/invoke/VarHandle" ∧ (parseMethodDescriptor yJ3_checkIndex_8e157.desc).map (fun d => d.parameters.length) = some 3 := by decide +kernel
theorem mT_coder {l : Launch} {E : ps_E} {σ : ps_S} (i : Nat) (hi : i < 3) : ps_MI l yJ0_coder_7d493 (ps_wm yJ0_coder_7d493 cJ0_coder_7d493 1 (some .byte)) rmT0 [.ref (e_K E i)] E σ 0 σ := by
  refine ps_metT yJ0_coder_7d493 rmT0 1 .byte (own := "java/lang/String") 0 rfl (by decide +kernel) rfl (Nat.le_of_ble_eq_true rfl) rfl (fun z e1 e2 e3 e4 e5 C k => ?_)
  subst e5
  have Z := ps_Zof e1 e3 e4
  refine ps_compact C (pc := 0) tw_292 dJ0_coder_7d493_0 ?_
  refine ps_if_eq C (pc := 3) 13 dJ0_coder_7d493_3 (by decide) (fun hc => absurd hc (by decide)) (fun _ => ?_)
  refine ps_aload_n C (pc := 6) dJ0_coder_7d493_6 0 rfl ?_
  refine ps_tcod C (pc := 7) i hi tw_1194 dJ0_coder_7d493_7 ?_
  refine ps_goto C (pc := 10) 14 dJ0_coder_7d493_10 (by decide) ?_
  exact k _ _ dJ0_coder_7d493_14
theorem mT_isLatin1 {l : Launch} {E : ps_E} {σ : ps_S} (i : Nat) (hi : i < 3) : ps_MI l yJ0_isLatin1_aae02 (ps_wm yJ0_isLatin1_aae02 cJ0_isLatin1_aae02 1 (some .boolean)) rmT0 [.ref (e_K E i)] E σ 1 σ := by
  refine ps_metT yJ0_isLatin1_aae02 rmT0 1 .boolean (own := "java/lang/String") 1 rfl (by decide +kernel) rfl (Nat.le_of_ble_eq_true rfl) rfl (fun z e1 e2 e3 e4 e5 C k => ?_)
  subst e5
  have Z := ps_Zof e1 e3 e4
  refine ps_compact C (pc := 0) tw_292 dJ0_isLatin1_aae02_0 ?_
  refine ps_if_eq C (pc := 3) 17 dJ0_isLatin1_aae02_3 (by decide) (fun hc => absurd hc (by decide)) (fun _ => ?_)
  refine ps_aload_n C (pc := 6) dJ0_isLatin1_aae02_6 0 rfl ?_
  refine ps_tcod C (pc := 7) i hi tw_1194 dJ0_isLatin1_aae02_7 ?_
  refine ps_if_ne C (pc := 10) 17 dJ0_isLatin1_aae02_10 (by decide) (fun hc => absurd rfl hc) (fun _ => ?_)
  refine ps_iconst C (pc := 13) (v := 1) dJ0_isLatin1_aae02_13 (by decide) ?_
  refine ps_goto C (pc := 14) 18 dJ0_isLatin1_aae02_14 (by decide) ?_
  exact k _ _ dJ0_isLatin1_aae02_18
theorem mT_length {l : Launch} {E : ps_E} {σ : ps_S} (i : Nat) (hi : i < 3) : ps_MI l yJ0_length_8abf5 (ps_wm yJ0_length_8abf5 cJ0_length_8abf5 1 (some .int)) rmT1 [.ref (e_K E i)] E σ (nI (ps_tl.getD i 0) >>> ((0 : Int32) &&& 31)) σ := by
  refine ps_metI yJ0_length_8abf5 rmT1 1 (own := "java/lang/String") _ (by decide +kernel) rfl (Nat.le_of_ble_eq_true rfl) rfl (fun z e1 e2 e3 e4 e5 C k => ?_)
  subst e5
  have Z := ps_Zof e1 e3 e4
  refine ps_aload_n C (pc := 0) dJ0_length_8abf5_0 0 rfl ?_
  refine ps_tval C (pc := 1) i hi tw_1193 dJ0_length_8abf5_1 ?_
  refine ps_tln C (pc := 4) i hi dJ0_length_8abf5_4 ?_
  refine ps_aload_n C (pc := 5) dJ0_length_8abf5_5 0 rfl ?_
  refine ps_callTI C Z (pc := 6) (As := []) i hi (mT_coder i hi) rfl tw_288 tw_289 tw_290 tw_72 tw_291 hdJ0_coder_7d493 rfl rfl ⟨by decide, by decide⟩ rfl (Nat.le_of_ble_eq_true rfl) dJ0_length_8abf5_6 rfl ?_
  refine ps_ishr C (pc := 9) dJ0_length_8abf5_9 ?_
  exact k _ _ dJ0_length_8abf5_10
theorem mT_pcheckN {l : Launch} {E : ps_E} {σ : ps_S} {a n : Int32} (h0 : ¬ a < 0) (h1 : a < n) : ps_MI l yJ3_checkIndex_8e157 (ps_wm yJ3_checkIndex_8e157 cJ3_checkIndex_8e157 3 (some .int)) rmT0 [.int a, .int n, .null] E σ a σ := by
  refine ps_metI yJ3_checkIndex_8e157 rmT0 3 (own := "jdk/internal/util/Preconditions") _ (by decide +kernel) rfl (Nat.le_of_ble_eq_true rfl) rfl (fun z e1 e2 e3 e4 e5 C k => ?_)
  subst e5
  have Z := ps_Zof e1 e3 e4
  refine ps_iload_n C (pc := 0) dJ3_checkIndex_8e157_0 0 rfl ?_
  refine ps_if_lt C (pc := 1) 9 dJ3_checkIndex_8e157_1 (by decide) (fun hc => absurd hc h0) (fun _ => ?_)
  refine ps_iload_n C (pc := 4) dJ3_checkIndex_8e157_4 0 rfl ?_
  refine ps_iload_n C (pc := 5) dJ3_checkIndex_8e157_5 1 rfl ?_
  refine ps_icmp_lt C (pc := 6) 16 dJ3_checkIndex_8e157_6 (by decide) (fun _ => ?_) (fun hc => absurd h1 hc)
  refine ps_iload_n C (pc := 16) dJ3_checkIndex_8e157_16 0 rfl ?_
  exact k _ _ dJ3_checkIndex_8e157_17
theorem mT_pcheckR {l : Launch} {E : ps_E} {σ : ps_S} {a n : Int32} {t : Nat} (h0 : ¬ a < 0) (h1 : a < n) : ps_MI l yJ3_checkIndex_8e157 (ps_wm yJ3_checkIndex_8e157 cJ3_checkIndex_8e157 3 (some .int)) rmT0 [.int a, .int n, .ref t] E σ a σ := by
  refine ps_metI yJ3_checkIndex_8e157 rmT0 3 (own := "jdk/internal/util/Preconditions") _ (by decide +kernel) rfl (Nat.le_of_ble_eq_true rfl) rfl (fun z e1 e2 e3 e4 e5 C k => ?_)
  subst e5
  have Z := ps_Zof e1 e3 e4
  refine ps_iload_n C (pc := 0) dJ3_checkIndex_8e157_0 0 rfl ?_
  refine ps_if_lt C (pc := 1) 9 dJ3_checkIndex_8e157_1 (by decide) (fun hc => absurd hc h0) (fun _ => ?_)
  refine ps_iload_n C (pc := 4) dJ3_checkIndex_8e157_4 0 rfl ?_
  refine ps_iload_n C (pc := 5) dJ3_checkIndex_8e157_5 1 rfl ?_
  refine ps_icmp_lt C (pc := 6) 16 dJ3_checkIndex_8e157_6 (by decide) (fun _ => ?_) (fun hc => absurd h1 hc)
  refine ps_iload_n C (pc := 16) dJ3_checkIndex_8e157_16 0 rfl ?_
  exact k _ _ dJ3_checkIndex_8e157_17
theorem mT_scheck {l : Launch} {E : ps_E} {σ : ps_S} {a n : Int32} (h0 : ¬ a < 0) (h1 : a < n) : ps_MV l yJ0_checkIndex_df160 (ps_wm yJ0_checkIndex_df160 cJ0_checkIndex_df160 2 none) rmT1 [.int a, .int n] E σ σ := by
  refine ps_metV yJ0_checkIndex_df160 rmT1 2 (own := "java/lang/String")  (by decide +kernel) rfl (Nat.le_of_ble_eq_true rfl) rfl (fun z e1 e2 e3 e4 e5 C k => ?_)
  subst e5
  have Z := ps_Zof e1 e3 e4
  refine ps_iload_n C (pc := 0) dJ0_checkIndex_df160_0 0 rfl ?_
  refine ps_iload_n C (pc := 1) dJ0_checkIndex_df160_1 1 rfl ?_
  refine ps_former C (pc := 2) tw_308 dJ0_checkIndex_df160_2 (fun q => ?_)
  cases q with
  | none =>
    refine ps_callSI C Z (pc := 5) (As := [.int a, .int n, .null]) (mT_pcheckN h0 h1) tw_310 tw_311 tw_74 tw_312 hdJ3_checkIndex_8e157 rfl rfl ⟨by decide, by decide⟩ rfl (Nat.le_of_ble_eq_true rfl) dJ0_checkIndex_df160_5 rfl ?_
    refine ps_pop C (pc := 8) dJ0_checkIndex_df160_8 rfl ?_
    exact k _ _ dJ0_checkIndex_df160_9
  | some t =>
    refine ps_callSI C Z (pc := 5) (As := [.int a, .int n, .ref t]) (mT_pcheckR h0 h1) tw_310 tw_311 tw_74 tw_312 hdJ3_checkIndex_8e157 rfl rfl ⟨by decide, by decide⟩ rfl (Nat.le_of_ble_eq_true rfl) dJ0_checkIndex_df160_5 rfl ?_
    refine ps_pop C (pc := 8) dJ0_checkIndex_df160_8 rfl ?_
    exact k _ _ dJ0_checkIndex_df160_9
theorem ps_jlt {j : Int32} {n : Nat} (hn : n < 2 ^ 31) (h : vp_in j n) : ¬ j < 0 ∧ j < nI n := by
  obtain ⟨q, hq, rfl⟩ := vp_in_of h hn
  exact ⟨nI_pos (by omega), nI_lt hq hn⟩
theorem ps_tl_lt (i : Nat) (hi : i < 3) : ps_tl.getD i 0 < 2 ^ 31 := by
  rcases (show i = 0 ∨ i = 1 ∨ i = 2 by omega) with rfl | rfl | rfl <;> decide
theorem mT_lchar {l : Launch} {E : ps_E} {σ : ps_S} (i : Nat) (hi : i < 3) {j : Int32} (hj : vp_in j (ps_tl.getD i 0)) : ps_MI l yJ1_charAt_3b067 (ps_wm yJ1_charAt_3b067 cJ1_charAt_3b067 2 (some .char)) rmT2 [.ref (e_V E i), .int j] E σ (ps_ch i j) σ := by
  refine ps_metT yJ1_charAt_3b067 rmT2 2 .char (own := "java/lang/StringLatin1") _ (sc_nar _) (by decide +kernel) rfl (Nat.le_of_ble_eq_true rfl) rfl (fun z e1 e2 e3 e4 e5 C k => ?_)
  subst e5
  have Z := ps_Zof e1 e3 e4
  refine ps_iload_n C (pc := 0) dJ1_charAt_3b067_0 1 rfl ?_
  refine ps_aload_n C (pc := 1) dJ1_charAt_3b067_1 0 rfl ?_
  refine ps_tln C (pc := 2) i hi dJ1_charAt_3b067_2 ?_
  refine ps_callSV C Z (pc := 3) (As := [.int j, .int (nI (ps_tl.getD i 0))]) (mT_scheck (ps_jlt (ps_tl_lt i hi) hj).1 (ps_jlt (ps_tl_lt i hi) hj).2) tw_305 tw_306 tw_72 tw_307 hdJ0_checkIndex_df160 rfl rfl ⟨by decide, by decide⟩ rfl (Nat.le_of_ble_eq_true rfl) dJ1_charAt_3b067_3 rfl ?_
  refine ps_aload_n C (pc := 6) dJ1_charAt_3b067_6 0 rfl ?_
  refine ps_iload_n C (pc := 7) dJ1_charAt_3b067_7 1 rfl ?_
  refine ps_tbl C (pc := 8) i hi hj dJ1_charAt_3b067_8 ?_
  refine ps_sipush C (pc := 9) (v := 255) dJ1_charAt_3b067_9 (by decide) ?_
  refine ps_iand C (pc := 12) dJ1_charAt_3b067_12 ?_
  refine ps_i2c C (pc := 13) dJ1_charAt_3b067_13 (sc_c2 _) ?_
  exact k _ _ dJ1_charAt_3b067_14
theorem mT_char {l : Launch} {E : ps_E} {σ : ps_S} (i : Nat) (hi : i < 3) {j : Int32} (hj : vp_in j (ps_tl.getD i 0)) : ps_MI l yJ0_charAt_5068e (ps_wm yJ0_charAt_5068e cJ0_charAt_5068e 2 (some .char)) rmT3 [.ref (e_K E i), .int j] E σ (ps_ch i j) σ := by
  refine ps_metT yJ0_charAt_5068e rmT3 2 .char (own := "java/lang/String") _ (sc_nar _) (by decide +kernel) rfl (Nat.le_of_ble_eq_true rfl) rfl (fun z e1 e2 e3 e4 e5 C k => ?_)
  subst e5
  have Z := ps_Zof e1 e3 e4
  refine ps_aload_n C (pc := 0) dJ0_charAt_5068e_0 0 rfl ?_
  refine ps_callTI C Z (pc := 1) (As := []) i hi (mT_isLatin1 i hi) rfl tw_298 tw_299 tw_300 tw_72 tw_301 hdJ0_isLatin1_aae02 rfl rfl ⟨by decide, by decide⟩ rfl (Nat.le_of_ble_eq_true rfl) dJ0_charAt_5068e_1 rfl ?_
  refine ps_if_eq C (pc := 4) 16 dJ0_charAt_5068e_4 (by decide) (fun hc => absurd hc (by decide)) (fun _ => ?_)
  refine ps_aload_n C (pc := 7) dJ0_charAt_5068e_7 0 rfl ?_
  refine ps_tval C (pc := 8) i hi tw_1193 dJ0_charAt_5068e_8 ?_
  refine ps_iload_n C (pc := 11) dJ0_charAt_5068e_11 1 rfl ?_
  refine ps_callSI C Z (pc := 12) (As := [.ref (e_V (z_E z) i), .int j]) (mT_lchar i hi hj) tw_302 tw_303 tw_73 tw_304 hdJ1_charAt_3b067 rfl rfl ⟨by decide, by decide⟩ rfl (Nat.le_of_ble_eq_true rfl) dJ0_charAt_5068e_12 rfl ?_
  exact k _ _ dJ0_charAt_5068e_15
