def fX4_end (a1 : Int32) (σ : ps_S) : Option (Int32 × ps_S) :=
  (if a1 < 0 then some ((0 : Int32), σ)
  else (if a1 ≤ (σ.1 36 1) then (ps_let (ps_ui σ 36 1 a1) fun σ1 =>
  some ((1 : Int32), σ1))
  else some ((0 : Int32), σ)))
set_option maxHeartbeats 4000000 in
set_option maxRecDepth 100000 in
theorem tX4_end {z : ps_X} (C : ps_C z cX4_end 2 "PartSums") (Z : ps_Z z 0 0) {a1 : Int32} {σ : ps_S}  {r : Int32 × ps_S} (h : fX4_end a1 σ = some r) (k : ps_KZ z 2 cX4_end r.1 r.2) : ps_at z 2 0 [(0, .ref (z_ad z 0)), (1, .int a1)] [] σ := by
  unfold fX4_end at h
  refine ps_iload_n C (pc := 0) dX4_end_0 1 rfl ?_
  refine ps_if_lt C (pc := 1) 15 dX4_end_1 (by decide) (fun hc => ?_) (fun hc => ?_)
  · have h := ps_ift hc h
    refine ps_iconst C (pc := 15) (v := 0) dX4_end_15 (by decide) ?_
    obtain rfl := Option.some.inj h
    exact k _ _ (Or.inl rfl) dX4_end_16
  · have h := ps_iff hc h
    refine ps_iload_n C (pc := 4) dX4_end_4 1 rfl ?_
    refine ps_aload_n C (pc := 5) dX4_end_5 0 rfl ?_
    refine pg_0_4 C (pc := 6) tw_210 dX4_end_6 ?_
    refine pg_36_1 C (pc := 9) tw_156 dX4_end_9 ?_
    refine ps_icmp_le C (pc := 12) 17 dX4_end_12 (by decide) (fun hc => ?_) (fun hc => ?_)
    · have h := ps_ift hc h
      refine ps_aload_n C (pc := 17) dX4_end_17 0 rfl ?_
      refine pg_0_4 C (pc := 18) tw_210 dX4_end_18 ?_
      refine ps_iload_n C (pc := 21) dX4_end_21 1 rfl ?_
      refine pp_36_1 C (pc := 22) tw_156 dX4_end_22 h (fun σ1 h => ?_)
      refine ps_iconst C (pc := 25) (v := 1) dX4_end_25 (by decide) ?_
      obtain rfl := Option.some.inj h
      exact k _ _ (Or.inr rfl) dX4_end_26
    · have h := ps_iff hc h
      refine ps_iconst C (pc := 15) (v := 0) dX4_end_15 (by decide) ?_
      obtain rfl := Option.some.inj h
      exact k _ _ (Or.inl rfl) dX4_end_16
def rmX4_end : Room := { frames := 0, cells := 0, slots := 0, locals := 0 }
theorem mX4_end {l : Launch} {E : ps_E} {σ : ps_S} {a1 : Int32} {r : Int32 × ps_S}  (h : fX4_end a1 σ = some r) : ps_MI l yX4_end (ps_wm yX4_end cX4_end 2 (some .boolean)) rmX4_end [.ref (e_ad E 0), .int a1] E σ r.1 r.2 :=
  ps_metZ yX4_end rmX4_end 2 (own := "PartSums") r.1 (by decide +kernel) rfl (Nat.le_of_ble_eq_true rfl) rfl (fun z e1 e2 e3 e4 e5 C k => by
    subst e5
    exact tX4_end C (ps_Zof e1 e3 e4)  h k)
theorem hdX4_end : yX4_end.cls ≠ "java/lang/invoke/MethodHandle" ∧ yX4_end.cls ≠ "java/lang/invoke/VarHandle" ∧ (parseMethodDescriptor yX4_end.desc).map (fun d => d.parameters.length) = some 1 := by decide +kernel
def fX4_fault (σ : ps_S) : Option (Int32) :=
  some (σ.1 36 2)
set_option maxHeartbeats 4000000 in
set_option maxRecDepth 100000 in
theorem tX4_fault {z : ps_X} (C : ps_C z cX4_fault 1 "PartSums") (Z : ps_Z z 0 0) {σ : ps_S}  {r : Int32} (h : fX4_fault σ = some r) (k : ps_KI z 1 cX4_fault r σ) : ps_at z 1 0 [(0, .ref (z_ad z 0))] [] σ := by
  unfold fX4_fault at h
  refine ps_aload_n C (pc := 0) dX4_fault_0 0 rfl ?_
  refine pg_0_4 C (pc := 1) tw_210 dX4_fault_1 ?_
  refine pg_36_2 C (pc := 4) tw_158 dX4_fault_4 ?_
  obtain rfl := Option.some.inj h
  exact k _ _ dX4_fault_7
def rmX4_fault : Room := { frames := 0, cells := 0, slots := 0, locals := 0 }
theorem mX4_fault {l : Launch} {E : ps_E} {σ : ps_S}  {r : Int32}  (h : fX4_fault σ = some r) : ps_MI l yX4_fault (ps_wm yX4_fault cX4_fault 1 (some .int)) rmX4_fault [.ref (e_ad E 0)] E σ r σ :=
  ps_metI yX4_fault rmX4_fault 1 (own := "PartSums") r (by decide +kernel) rfl (Nat.le_of_ble_eq_true rfl) rfl (fun z e1 e2 e3 e4 e5 C k => by
    subst e5
    exact tX4_fault C (ps_Zof e1 e3 e4)  h k)
theorem hdX4_fault : yX4_fault.cls ≠ "java/lang/invoke/MethodHandle" ∧ yX4_fault.cls ≠ "java/lang/invoke/VarHandle" ∧ (parseMethodDescriptor yX4_fault.desc).map (fun d => d.parameters.length) = some 0 := by decide +kernel
def fX4_now (a1 : Int32) (σ : ps_S) : Option (Int32) :=
  (if a1 = (0 : Int32) then some (σ.1 1 0)
  else (if a1 = (1 : Int32) then ((fX1_countTold σ).bind fun q1 =>
  some q1)
  else (if a1 = (2 : Int32) then ((fX1_countPairs σ).bind fun q2 =>
  some q2)
  else (if a1 = (3 : Int32) then some (σ.1 22 0)
  else (if a1 = (4 : Int32) then some (σ.1 36 1)
  else some (-1 : Int32))))))
set_option maxHeartbeats 4000000 in
set_option maxRecDepth 100000 in
theorem tX4_now {z : ps_X} (C : ps_C z cX4_now 2 "PartSums") (Z : ps_Z z 2 41) {a1 : Int32} {σ : ps_S}  {r : Int32} (h : fX4_now a1 σ = some r) (k : ps_KI z 2 cX4_now r σ) : ps_at z 2 0 [(0, .ref (z_ad z 0)), (1, .int a1)] [] σ := by
  unfold fX4_now at h
  refine ps_iload_n C (pc := 0) dX4_now_0 1 rfl ?_
  by_cases hc1_0 : a1 = (0 : Int32)
  · have h := ps_ift hc1_0 h
    refine ps_tsw C (pc := 1) 0 hc1_0 36 dX4_now_1 (by decide) (by decide) (by rfl) (by decide) ?_
    refine ps_aload_n C (pc := 36) dX4_now_36 0 rfl ?_
    refine pg_0_0 C (pc := 37) tw_206 dX4_now_37 ?_
    refine pg_1_0 C (pc := 40) tw_100 dX4_now_40 ?_
    obtain rfl := Option.some.inj h
    exact k _ _ dX4_now_43
  replace h := ps_iff hc1_0 h
  by_cases hc1_1 : a1 = (1 : Int32)
  · have h := ps_ift hc1_1 h
    refine ps_tsw C (pc := 1) 1 hc1_1 44 dX4_now_1 (by decide) (by decide) (by rfl) (by decide) ?_
    refine ps_aload_n C (pc := 44) dX4_now_44 0 rfl ?_
    refine pg_0_0 C (pc := 45) tw_206 dX4_now_45 ?_
    obtain ⟨q1, hq1, h⟩ := ps_bd h
    refine ps_callVI C Z (pc := 48) (As := []) (k0 := 1) (mX1_countTold  hq1) (Cn := "PartSums$Ground") rfl tw_386 tw_387 tw_388 tw_66 tw_389 hdX1_countTold rfl rfl ⟨by decide, by decide⟩ (by decide) ps_o1 rfl rfl (Nat.le_of_ble_eq_true rfl) dX4_now_48 rfl ?_
    obtain rfl := Option.some.inj h
    exact k _ _ dX4_now_51
  replace h := ps_iff hc1_1 h
  by_cases hc1_2 : a1 = (2 : Int32)
  · have h := ps_ift hc1_2 h
    refine ps_tsw C (pc := 1) 2 hc1_2 52 dX4_now_1 (by decide) (by decide) (by rfl) (by decide) ?_
    refine ps_aload_n C (pc := 52) dX4_now_52 0 rfl ?_
    refine pg_0_0 C (pc := 53) tw_206 dX4_now_53 ?_
    obtain ⟨q2, hq2, h⟩ := ps_bd h
    refine ps_callVI C Z (pc := 56) (As := []) (k0 := 1) (mX1_countPairs  hq2) (Cn := "PartSums$Ground") rfl tw_390 tw_391 tw_392 tw_66 tw_393 hdX1_countPairs rfl rfl ⟨by decide, by decide⟩ (by decide) ps_o1 rfl rfl (Nat.le_of_ble_eq_true rfl) dX4_now_56 rfl ?_
    obtain rfl := Option.some.inj h
    exact k _ _ dX4_now_59
  replace h := ps_iff hc1_2 h
  by_cases hc1_3 : a1 = (3 : Int32)
  · have h := ps_ift hc1_3 h
    refine ps_tsw C (pc := 1) 3 hc1_3 60 dX4_now_1 (by decide) (by decide) (by rfl) (by decide) ?_
    refine ps_aload_n C (pc := 60) dX4_now_60 0 rfl ?_
    refine pg_0_3 C (pc := 61) tw_209 dX4_now_61 ?_
    refine pg_22_0 C (pc := 64) tw_125 dX4_now_64 ?_
    obtain rfl := Option.some.inj h
    exact k _ _ dX4_now_67
  replace h := ps_iff hc1_3 h
  by_cases hc1_4 : a1 = (4 : Int32)
  · have h := ps_ift hc1_4 h
    refine ps_tsw C (pc := 1) 4 hc1_4 68 dX4_now_1 (by decide) (by decide) (by rfl) (by decide) ?_
    refine ps_aload_n C (pc := 68) dX4_now_68 0 rfl ?_
    refine pg_0_4 C (pc := 69) tw_210 dX4_now_69 ?_
    refine pg_36_1 C (pc := 72) tw_156 dX4_now_72 ?_
    obtain rfl := Option.some.inj h
    exact k _ _ dX4_now_75
  replace h := ps_iff hc1_4 h
  refine ps_tsd C (pc := 1) 76 dX4_now_1 (by have q0 := ps_ni hc1_0 (n := 0) (by decide); have q1 := ps_ni hc1_1 (n := 1) (by decide); have q2 := ps_ni hc1_2 (n := 2) (by decide); have q3 := ps_ni hc1_3 (n := 3) (by decide); have q4 := ps_ni hc1_4 (n := 4) (by decide); omega) (by decide) ?_
  refine ps_iconst C (pc := 76) (v := -1) dX4_now_76 (by decide) ?_
  obtain rfl := Option.some.inj h
  exact k _ _ dX4_now_77
def rmX4_now : Room := { frames := 2, cells := 0, slots := 0, locals := 41 }
theorem mX4_now {l : Launch} {E : ps_E} {σ : ps_S} {a1 : Int32} {r : Int32}  (h : fX4_now a1 σ = some r) : ps_MI l yX4_now (ps_wm yX4_now cX4_now 2 (some .int)) rmX4_now [.ref (e_ad E 0), .int a1] E σ r σ :=
  ps_metI yX4_now rmX4_now 2 (own := "PartSums") r (by decide +kernel) rfl (Nat.le_of_ble_eq_true rfl) rfl (fun z e1 e2 e3 e4 e5 C k => by
    subst e5
    exact tX4_now C (ps_Zof e1 e3 e4)  h k)
theorem hdX4_now : yX4_now.cls ≠ "java/lang/invoke/MethodHandle" ∧ yX4_now.cls ≠ "java/lang/invoke/VarHandle" ∧ (parseMethodDescriptor yX4_now.desc).map (fun d => d.parameters.length) = some 1 := by decide +kernel
def fX4_weight (a1 : Int32) (σ : ps_S) : Option (Int32) :=
  ((fX1_hasSet a1 σ).bind fun q1 =>
  (if q1 = 0 then some (-1 : Int32)
  else (ps_ck (4 : Int32) 5 ((ps_ck a1 256 (some (σ.1 (2 + 1 + (Int32.toNatClampNeg (4 : Int32))) (Int32.toNatClampNeg a1))))))))
set_option maxHeartbeats 4000000 in
set_option maxRecDepth 100000 in
theorem tX4_weight {z : ps_X} (C : ps_C z cX4_weight 2 "PartSums") (Z : ps_Z z 2 41) {a1 : Int32} {σ : ps_S}  {r : Int32} (h : fX4_weight a1 σ = some r) (k : ps_KI z 2 cX4_weight r σ) : ps_at z 2 0 [(0, .ref (z_ad z 0)), (1, .int a1)] [] σ := by
  unfold fX4_weight at h
  refine ps_aload_n C (pc := 0) dX4_weight_0 0 rfl ?_
  refine pg_0_0 C (pc := 1) tw_206 dX4_weight_1 ?_
  refine ps_iload_n C (pc := 4) dX4_weight_4 1 rfl ?_
  obtain ⟨q1, hq1, h⟩ := ps_bd h
  refine ps_callVI C Z (pc := 5) (As := [.int a1]) (k0 := 1) (mX1_hasSet  hq1) (Cn := "PartSums$Ground") rfl tw_404 tw_405 tw_406 tw_66 tw_407 hdX1_hasSet rfl rfl ⟨by decide, by decide⟩ (by decide) ps_o1 rfl rfl (Nat.le_of_ble_eq_true rfl) dX4_weight_5 rfl ?_
  refine ps_if_eq C (pc := 8) 25 dX4_weight_8 (by decide) (fun hc => ?_) (fun hc => ?_)
  · have h := ps_ift hc h
    refine ps_iconst C (pc := 25) (v := -1) dX4_weight_25 (by decide) ?_
    obtain rfl := Option.some.inj h
    exact k _ _ dX4_weight_26
  · have h := ps_iff hc h
    refine ps_aload_n C (pc := 11) dX4_weight_11 0 rfl ?_
    refine pg_0_0 C (pc := 12) tw_206 dX4_weight_12 ?_
    refine pg_1_3 C (pc := 15) tw_106 dX4_weight_15 ?_
    refine ps_iconst C (pc := 18) (v := 4) dX4_weight_18 (by decide) ?_
    obtain ⟨hi2, h⟩ := ps_ck_s h
    refine ps_aald C (pc := 19) 2 rfl rfl hi2 dX4_weight_19 ?_
    refine ps_iload_n C (pc := 20) dX4_weight_20 1 rfl ?_
    obtain ⟨hi3, h⟩ := ps_ck_s h
    refine ps_iald C (pc := 21) (2 + 1 + (Int32.toNatClampNeg (4 : Int32))) (ps_rw2 hi2).1 (ps_rw2 hi2).2 hi3 dX4_weight_21 ?_
    refine ps_goto C (pc := 22) 26 dX4_weight_22 (by decide) ?_
    obtain rfl := Option.some.inj h
    exact k _ _ dX4_weight_26
def rmX4_weight : Room := { frames := 2, cells := 0, slots := 0, locals := 41 }
theorem mX4_weight {l : Launch} {E : ps_E} {σ : ps_S} {a1 : Int32} {r : Int32}  (h : fX4_weight a1 σ = some r) : ps_MI l yX4_weight (ps_wm yX4_weight cX4_weight 2 (some .int)) rmX4_weight [.ref (e_ad E 0), .int a1] E σ r σ :=
  ps_metI yX4_weight rmX4_weight 2 (own := "PartSums") r (by decide +kernel) rfl (Nat.le_of_ble_eq_true rfl) rfl (fun z e1 e2 e3 e4 e5 C k => by
    subst e5
    exact tX4_weight C (ps_Zof e1 e3 e4)  h k)
theorem hdX4_weight : yX4_weight.cls ≠ "java/lang/invoke/MethodHandle" ∧ yX4_weight.cls ≠ "java/lang/invoke/VarHandle" ∧ (parseMethodDescriptor yX4_weight.desc).map (fun d => d.parameters.length) = some 1 := by decide +kernel
def fX4_joined (a1 : Int32) (σ : ps_S) : Option (Int32) :=
  ((fX1_hasThing a1 σ).bind fun q1 =>
  (if q1 = 0 then some (-1 : Int32)
  else ((fX1_mates a1 σ).bind fun q2 =>
  some q2)))
set_option maxHeartbeats 4000000 in
set_option maxRecDepth 100000 in
theorem tX4_joined {z : ps_X} (C : ps_C z cX4_joined 2 "PartSums") (Z : ps_Z z 1 21) {a1 : Int32} {σ : ps_S}  {r : Int32} (h : fX4_joined a1 σ = some r) (k : ps_KI z 2 cX4_joined r σ) : ps_at z 2 0 [(0, .ref (z_ad z 0)), (1, .int a1)] [] σ := by
  unfold fX4_joined at h
  refine ps_aload_n C (pc := 0) dX4_joined_0 0 rfl ?_
  refine pg_0_0 C (pc := 1) tw_206 dX4_joined_1 ?_
  refine ps_iload_n C (pc := 4) dX4_joined_4 1 rfl ?_
  obtain ⟨q1, hq1, h⟩ := ps_bd h
  refine ps_callVI C Z (pc := 5) (As := [.int a1]) (k0 := 1) (mX1_hasThing  hq1) (Cn := "PartSums$Ground") rfl tw_416 tw_417 tw_418 tw_66 tw_419 hdX1_hasThing rfl rfl ⟨by decide, by decide⟩ (by decide) ps_o1 rfl rfl (Nat.le_of_ble_eq_true rfl) dX4_joined_5 rfl ?_
  refine ps_if_eq C (pc := 8) 22 dX4_joined_8 (by decide) (fun hc => ?_) (fun hc => ?_)
  · have h := ps_ift hc h
    refine ps_iconst C (pc := 22) (v := -1) dX4_joined_22 (by decide) ?_
    obtain rfl := Option.some.inj h
    exact k _ _ dX4_joined_23
  · have h := ps_iff hc h
    refine ps_aload_n C (pc := 11) dX4_joined_11 0 rfl ?_
    refine pg_0_0 C (pc := 12) tw_206 dX4_joined_12 ?_
    refine ps_iload_n C (pc := 15) dX4_joined_15 1 rfl ?_
    obtain ⟨q2, hq2, h⟩ := ps_bd h
    refine ps_callVI C Z (pc := 16) (As := [.int a1]) (k0 := 1) (mX1_mates  hq2) (Cn := "PartSums$Ground") rfl tw_420 tw_421 tw_422 tw_66 tw_423 hdX1_mates rfl rfl ⟨by decide, by decide⟩ (by decide) ps_o1 rfl rfl (Nat.le_of_ble_eq_true rfl) dX4_joined_16 rfl ?_
    refine ps_goto C (pc := 19) 23 dX4_joined_19 (by decide) ?_
    obtain rfl := Option.some.inj h
    exact k _ _ dX4_joined_23
def rmX4_joined : Room := { frames := 1, cells := 0, slots := 0, locals := 21 }
theorem mX4_joined {l : Launch} {E : ps_E} {σ : ps_S} {a1 : Int32} {r : Int32}  (h : fX4_joined a1 σ = some r) : ps_MI l yX4_joined (ps_wm yX4_joined cX4_joined 2 (some .int)) rmX4_joined [.ref (e_ad E 0), .int a1] E σ r σ :=
  ps_metI yX4_joined rmX4_joined 2 (own := "PartSums") r (by decide +kernel) rfl (Nat.le_of_ble_eq_true rfl) rfl (fun z e1 e2 e3 e4 e5 C k => by
    subst e5
    exact tX4_joined C (ps_Zof e1 e3 e4)  h k)
theorem hdX4_joined : yX4_joined.cls ≠ "java/lang/invoke/MethodHandle" ∧ yX4_joined.cls ≠ "java/lang/invoke/VarHandle" ∧ (parseMethodDescriptor yX4_joined.desc).map (fun d => d.parameters.length) = some 1 := by decide +kernel
def fX4_at (a1 : Int32) (a2 : Int32) (σ : ps_S) : Option (Int32) :=
  ((fX1_hasRow a1 σ).bind fun q1 =>
  (if q1 = 0 then some (-1 : Int32)
  else ((fX1_hasSet a2 σ).bind fun q2 =>
  (if q2 = 0 then some (-1 : Int32)
  else (ps_ck a1 5 ((ps_ck a2 256 (some (σ.1 (2 + 1 + (Int32.toNatClampNeg a1)) (Int32.toNatClampNeg a2))))))))))
set_option maxHeartbeats 4000000 in
set_option maxRecDepth 100000 in
theorem tX4_at {z : ps_X} (C : ps_C z cX4_at 3 "PartSums") (Z : ps_Z z 2 41) {a1 : Int32} {a2 : Int32} {σ : ps_S}  {r : Int32} (h : fX4_at a1 a2 σ = some r) (k : ps_KI z 3 cX4_at r σ) : ps_at z 3 0 [(0, .ref (z_ad z 0)), (1, .int a1), (2, .int a2)] [] σ := by
  unfold fX4_at at h
  refine ps_aload_n C (pc := 0) dX4_at_0 0 rfl ?_
  refine pg_0_0 C (pc := 1) tw_206 dX4_at_1 ?_
  refine ps_iload_n C (pc := 4) dX4_at_4 1 rfl ?_
  obtain ⟨q1, hq1, h⟩ := ps_bd h
  refine ps_callVI C Z (pc := 5) (As := [.int a1]) (k0 := 1) (mX1_hasRow  hq1) (Cn := "PartSums$Ground") rfl tw_428 tw_429 tw_430 tw_66 tw_431 hdX1_hasRow rfl rfl ⟨by decide, by decide⟩ (by decide) ps_o1 rfl rfl (Nat.le_of_ble_eq_true rfl) dX4_at_5 rfl ?_
  refine ps_if_eq C (pc := 8) 36 dX4_at_8 (by decide) (fun hc => ?_) (fun hc => ?_)
  · have h := ps_ift hc h
    refine ps_iconst C (pc := 36) (v := -1) dX4_at_36 (by decide) ?_
    obtain rfl := Option.some.inj h
    exact k _ _ dX4_at_37
  · have h := ps_iff hc h
    refine ps_aload_n C (pc := 11) dX4_at_11 0 rfl ?_
    refine pg_0_0 C (pc := 12) tw_206 dX4_at_12 ?_
    refine ps_iload_n C (pc := 15) dX4_at_15 2 rfl ?_
    obtain ⟨q2, hq2, h⟩ := ps_bd h
    refine ps_callVI C Z (pc := 16) (As := [.int a2]) (k0 := 1) (mX1_hasSet  hq2) (Cn := "PartSums$Ground") rfl tw_404 tw_405 tw_406 tw_66 tw_407 hdX1_hasSet rfl rfl ⟨by decide, by decide⟩ (by decide) ps_o1 rfl rfl (Nat.le_of_ble_eq_true rfl) dX4_at_16 rfl ?_
    refine ps_if_eq C (pc := 19) 36 dX4_at_19 (by decide) (fun hc => ?_) (fun hc => ?_)
    · have h := ps_ift hc h
      refine ps_iconst C (pc := 36) (v := -1) dX4_at_36 (by decide) ?_
      obtain rfl := Option.some.inj h
      exact k _ _ dX4_at_37
    · have h := ps_iff hc h
      refine ps_aload_n C (pc := 22) dX4_at_22 0 rfl ?_
      refine pg_0_0 C (pc := 23) tw_206 dX4_at_23 ?_
      refine pg_1_3 C (pc := 26) tw_106 dX4_at_26 ?_
      refine ps_iload_n C (pc := 29) dX4_at_29 1 rfl ?_
      obtain ⟨hi3, h⟩ := ps_ck_s h
      refine ps_aald C (pc := 30) 2 rfl rfl hi3 dX4_at_30 ?_
      refine ps_iload_n C (pc := 31) dX4_at_31 2 rfl ?_
      obtain ⟨hi4, h⟩ := ps_ck_s h
      refine ps_iald C (pc := 32) (2 + 1 + (Int32.toNatClampNeg a1)) (ps_rw2 hi3).1 (ps_rw2 hi3).2 hi4 dX4_at_32 ?_
      refine ps_goto C (pc := 33) 37 dX4_at_33 (by decide) ?_
      obtain rfl := Option.some.inj h
      exact k _ _ dX4_at_37
def rmX4_at : Room := { frames := 2, cells := 0, slots := 0, locals := 41 }
theorem mX4_at {l : Launch} {E : ps_E} {σ : ps_S} {a1 : Int32} {a2 : Int32} {r : Int32}  (h : fX4_at a1 a2 σ = some r) : ps_MI l yX4_at (ps_wm yX4_at cX4_at 3 (some .int)) rmX4_at [.ref (e_ad E 0), .int a1, .int a2] E σ r σ :=
  ps_metI yX4_at rmX4_at 3 (own := "PartSums") r (by decide +kernel) rfl (Nat.le_of_ble_eq_true rfl) rfl (fun z e1 e2 e3 e4 e5 C k => by
    subst e5
    exact tX4_at C (ps_Zof e1 e3 e4)  h k)
theorem hdX4_at : yX4_at.cls ≠ "java/lang/invoke/MethodHandle" ∧ yX4_at.cls ≠ "java/lang/invoke/VarHandle" ∧ (parseMethodDescriptor yX4_at.desc).map (fun d => d.parameters.length) = some 2 := by decide +kernel
def fX4_put (a1 : Int32) (a2 : Int32) (a3 : Int32) (σ : ps_S) : Option (Int32 × ps_S) :=
  ((fX1_hasRow a1 σ).bind fun q1 =>
  (if q1 = 0 then some ((-1 : Int32), σ)
  else ((fX1_hasSet a2 σ).bind fun q2 =>
  (if q2 = 0 then some ((-1 : Int32), σ)
  else ((fX0_keepLine a1 σ).bind fun q3 =>
  (ps_ck a1 5 (((fX4_reduce (Int32.toInt64 a3)).bind fun q5 =>
  (ps_ck a2 256 ((ps_let (ps_ui q3 (2 + 1 + (Int32.toNatClampNeg a1)) (Int32.toNatClampNeg a2) q5) fun σ7 =>
  (ps_ck a1 5 ((ps_ck a2 256 (some ((σ7.1 (2 + 1 + (Int32.toNatClampNeg a1)) (Int32.toNatClampNeg a2)), σ7))))))))))))))))
set_option maxHeartbeats 4000000 in
set_option maxRecDepth 100000 in
theorem tX4_put {z : ps_X} (C : ps_C z cX4_put 4 "PartSums") (Z : ps_Z z 3 143) {a1 : Int32} {a2 : Int32} {a3 : Int32} {σ : ps_S}  {r : Int32 × ps_S} (h : fX4_put a1 a2 a3 σ = some r) (k : ps_KI z 4 cX4_put r.1 r.2) : ps_at z 4 0 [(0, .ref (z_ad z 0)), (1, .int a1), (2, .int a2), (3, .int a3)] [] σ := by
  unfold fX4_put at h
  refine ps_aload_n C (pc := 0) dX4_put_0 0 rfl ?_
  refine pg_0_0 C (pc := 1) tw_206 dX4_put_1 ?_
  refine ps_iload_n C (pc := 4) dX4_put_4 1 rfl ?_
  obtain ⟨q1, hq1, h⟩ := ps_bd h
  refine ps_callVI C Z (pc := 5) (As := [.int a1]) (k0 := 1) (mX1_hasRow  hq1) (Cn := "PartSums$Ground") rfl tw_428 tw_429 tw_430 tw_66 tw_431 hdX1_hasRow rfl rfl ⟨by decide, by decide⟩ (by decide) ps_o1 rfl rfl (Nat.le_of_ble_eq_true rfl) dX4_put_5 rfl ?_
  refine ps_if_eq C (pc := 8) 22 dX4_put_8 (by decide) (fun hc => ?_) (fun hc => ?_)
  · have h := ps_ift hc h
    refine ps_iconst C (pc := 22) (v := -1) dX4_put_22 (by decide) ?_
    obtain rfl := Option.some.inj h
    exact k _ _ dX4_put_23
  · have h := ps_iff hc h
    refine ps_aload_n C (pc := 11) dX4_put_11 0 rfl ?_
    refine pg_0_0 C (pc := 12) tw_206 dX4_put_12 ?_
    refine ps_iload_n C (pc := 15) dX4_put_15 2 rfl ?_
    obtain ⟨q2, hq2, h⟩ := ps_bd h
    refine ps_callVI C Z (pc := 16) (As := [.int a2]) (k0 := 1) (mX1_hasSet  hq2) (Cn := "PartSums$Ground") rfl tw_404 tw_405 tw_406 tw_66 tw_407 hdX1_hasSet rfl rfl ⟨by decide, by decide⟩ (by decide) ps_o1 rfl rfl (Nat.le_of_ble_eq_true rfl) dX4_put_16 rfl ?_
    refine ps_if_ne C (pc := 19) 24 dX4_put_19 (by decide) (fun hc => ?_) (fun hc => ?_)
    · have h := ps_iff hc h
      refine ps_aload_n C (pc := 24) dX4_put_24 0 rfl ?_
      refine pg_0_3 C (pc := 25) tw_209 dX4_put_25 ?_
      refine ps_aload_n C (pc := 28) dX4_put_28 0 rfl ?_
      refine pg_0_0 C (pc := 29) tw_206 dX4_put_29 ?_
      refine ps_iload_n C (pc := 32) dX4_put_32 1 rfl ?_
      obtain ⟨q3, hq3, h⟩ := ps_bd h
      refine ps_callVV C Z (pc := 33) (As := [.ref (z_ad z 1), .int a1]) (k0 := 22) (mX0_keepLine  hq3) (Cn := "PartSums$Acts") rfl tw_436 tw_437 tw_438 tw_67 tw_439 hdX0_keepLine rfl rfl ⟨by decide, by decide⟩ (by decide) ps_o22 rfl rfl (Nat.le_of_ble_eq_true rfl) dX4_put_33 rfl ?_
      refine ps_aload_n C (pc := 36) dX4_put_36 0 rfl ?_
      refine pg_0_0 C (pc := 37) tw_206 dX4_put_37 ?_
      refine pg_1_3 C (pc := 40) tw_106 dX4_put_40 ?_
      refine ps_iload_n C (pc := 43) dX4_put_43 1 rfl ?_
      obtain ⟨hi4, h⟩ := ps_ck_s h
      refine ps_aald C (pc := 44) 2 rfl rfl hi4 dX4_put_44 ?_
      refine ps_iload_n C (pc := 45) dX4_put_45 2 rfl ?_
      refine ps_iload_n C (pc := 46) dX4_put_46 3 rfl ?_
      refine ps_i2l C (pc := 47) dX4_put_47 ?_
      obtain ⟨q5, hq5, h⟩ := ps_bd h
      refine ps_callSI C Z (pc := 48) (As := [.long (Int32.toInt64 a3)]) (mX4_reduce  hq5) tw_446 tw_447 tw_65 tw_448 hdX4_reduce rfl rfl ⟨by decide, by decide⟩ rfl (Nat.le_of_ble_eq_true rfl) dX4_put_48 rfl ?_
      obtain ⟨hi6, h⟩ := ps_ck_s h
      refine ps_iastL C (pc := 51) (2 + 1 + (Int32.toNatClampNeg a1)) (ps_rw2 hi4).1 (ps_rw2 hi4).2 hi6 dX4_put_51 h (fun σ7 h => ?_)
      refine ps_aload_n C (pc := 52) dX4_put_52 0 rfl ?_
      refine pg_0_0 C (pc := 53) tw_206 dX4_put_53 ?_
      refine pg_1_3 C (pc := 56) tw_106 dX4_put_56 ?_
      refine ps_iload_n C (pc := 59) dX4_put_59 1 rfl ?_
      obtain ⟨hi8, h⟩ := ps_ck_s h
      refine ps_aald C (pc := 60) 2 rfl rfl hi8 dX4_put_60 ?_
      refine ps_iload_n C (pc := 61) dX4_put_61 2 rfl ?_
      obtain ⟨hi9, h⟩ := ps_ck_s h
      refine ps_iald C (pc := 62) (2 + 1 + (Int32.toNatClampNeg a1)) (ps_rw2 hi8).1 (ps_rw2 hi8).2 hi9 dX4_put_62 ?_
      obtain rfl := Option.some.inj h
      exact k _ _ dX4_put_63
    · have h := ps_ift hc h
      refine ps_iconst C (pc := 22) (v := -1) dX4_put_22 (by decide) ?_
      obtain rfl := Option.some.inj h
      exact k _ _ dX4_put_23
def rmX4_put : Room := { frames := 3, cells := 0, slots := 0, locals := 143 }
theorem mX4_put {l : Launch} {E : ps_E} {σ : ps_S} {a1 : Int32} {a2 : Int32} {a3 : Int32} {r : Int32 × ps_S}  (h : fX4_put a1 a2 a3 σ = some r) : ps_MI l yX4_put (ps_wm yX4_put cX4_put 4 (some .int)) rmX4_put [.ref (e_ad E 0), .int a1, .int a2, .int a3] E σ r.1 r.2 :=
  ps_metI yX4_put rmX4_put 4 (own := "PartSums") r.1 (by decide +kernel) rfl (Nat.le_of_ble_eq_true rfl) rfl (fun z e1 e2 e3 e4 e5 C k => by
    subst e5
    exact tX4_put C (ps_Zof e1 e3 e4)  h k)
theorem hdX4_put : yX4_put.cls ≠ "java/lang/invoke/MethodHandle" ∧ yX4_put.cls ≠ "java/lang/invoke/VarHandle" ∧ (parseMethodDescriptor yX4_put.desc).map (fun d => d.parameters.length) = some 3 := by decide +kernel
def pX4_lay_S37 (z : ps_X) (a1 : Int32) (s : Int32 × ps_S) : Prop := ps_at z 4 37 [(0, .ref (z_ad z 0)), (1, .int a1), (3, .int s.1)] [] s.2
def qX4_lay_S37 (z : ps_X) (a1 : Int32) (x : (ps_S)) : Prop := match x with | y => ps_at z 4 70 [(0, .ref (z_ad z 0)), (1, .int a1)] [] y
def fX4_lay_S37 (a1 : Int32) (a3 : Int32) (σ : ps_S) : Option ((Int32 × ps_S) ⊕ ((ps_S))) :=
  ((fX1_countSets σ).bind fun q3 =>
  (if q3 ≤ a3 then some (.inr σ)
  else (ps_ck a3 256 (((fX4_reduce (Int32.toInt64 (σ.1 42 (Int32.toNatClampNeg a3)))).bind fun q5 =>
  (ps_ck a3 256 ((ps_let (ps_ui σ 42 (Int32.toNatClampNeg a3) q5) fun σ7 =>
  (ps_let (a3 + (1 : Int32)) fun x8 =>
  some (.inl (x8, σ7)))))))))))
set_option maxHeartbeats 4000000 in
set_option maxRecDepth 100000 in
theorem tX4_lay_S37 {z : ps_X} (C : ps_C z cX4_lay 4 "PartSums") (Z : ps_Z z 4 165) (a1 : Int32)  (s : Int32 × ps_S) (r : (Int32 × ps_S) ⊕ ((ps_S))) (h : fX4_lay_S37 a1 s.1 s.2 = some r) (k : ps_k (pX4_lay_S37 z a1) (qX4_lay_S37 z a1) r) : pX4_lay_S37 z a1 s := by
  obtain ⟨a3, σ⟩ := s
  unfold fX4_lay_S37 at h
  unfold pX4_lay_S37
  refine ps_iload_n C (pc := 37) dX4_lay_37 2 rfl ?_
  refine ps_aload_n C (pc := 38) dX4_lay_38 0 rfl ?_
  refine pg_0_0 C (pc := 39) tw_206 dX4_lay_39 ?_
  obtain ⟨q3, hq3, h⟩ := ps_bd h
  refine ps_callVI C Z (pc := 42) (As := []) (k0 := 1) (mX1_countSets  hq3) (Cn := "PartSums$Ground") rfl tw_457 tw_409 tw_410 tw_66 tw_411 hdX1_countSets rfl rfl ⟨by decide, by decide⟩ (by decide) ps_o1 rfl rfl (Nat.le_of_ble_eq_true rfl) dX4_lay_42 rfl ?_
  refine ps_icmp_ge C (pc := 45) 70 dX4_lay_45 (by decide) (fun hc => ?_) (fun hc => ?_)
  · have h := ps_ift hc h
    obtain rfl := Option.some.inj h
    exact ps_sub [0, 1] rfl k
  · have h := ps_iff hc h
    refine ps_aload_n C (pc := 48) dX4_lay_48 0 rfl ?_
    refine pg_0_6 C (pc := 49) tw_212 dX4_lay_49 ?_
    refine ps_iload_n C (pc := 52) dX4_lay_52 2 rfl ?_
    refine ps_aload_n C (pc := 53) dX4_lay_53 0 rfl ?_
    refine pg_0_6 C (pc := 54) tw_212 dX4_lay_54 ?_
    refine ps_iload_n C (pc := 57) dX4_lay_57 2 rfl ?_
    obtain ⟨hi4, h⟩ := ps_ck_s h
    refine ps_iald C (pc := 58) 42 rfl rfl hi4 dX4_lay_58 ?_
    refine ps_i2l C (pc := 59) dX4_lay_59 ?_
    obtain ⟨q5, hq5, h⟩ := ps_bd h
    refine ps_callSI C Z (pc := 60) (As := [.long (Int32.toInt64 (σ.1 42 (Int32.toNatClampNeg a3)))]) (mX4_reduce  hq5) tw_446 tw_447 tw_65 tw_448 hdX4_reduce rfl rfl ⟨by decide, by decide⟩ rfl (Nat.le_of_ble_eq_true rfl) dX4_lay_60 rfl ?_
    obtain ⟨hi6, h⟩ := ps_ck_s h
    refine ps_iastL C (pc := 63) 42 rfl rfl hi6 dX4_lay_63 h (fun σ7 h => ?_)
    refine ps_iincL C (pc := 64) (zz := 1) (lw := fun x8 => [(3, .int x8), (0, .ref (z_ad z 0)), (1, .int a1)]) dX4_lay_64 2 rfl (by decide) (by decide) (fun _ => rfl) h (fun x8 h => ?_)
    refine ps_goto C (pc := 67) 37 dX4_lay_67 (by decide) ?_
    obtain rfl := Option.some.inj h
    exact ps_sub [1, 2, 0] rfl k
def fX4_lay (a1 : Int32) (a2 : Int32) (σ : ps_S) : Option (Int32 × ps_S) :=
  ((fX1_hasRow a1 σ).bind fun q1 =>
  (if q1 = 0 then some ((-1 : Int32), σ)
  else (if a2 < 0 then some ((-1 : Int32), σ)
  else (if a2 ≤ (7 : Int32) then ((fX4_measureAll a2 42 σ).bind fun q2 =>
  ((ps_lp (fun s => fX4_lay_S37 a1 s.1 s.2) 100000 ((0 : Int32), q2)).bind fun e9 =>
  ((fX4_settle 42 a1 e9).bind fun q10 =>
  some (q10.1, q10.2))))
  else some ((-1 : Int32), σ)))))
set_option maxHeartbeats 4000000 in
set_option maxRecDepth 100000 in
theorem tX4_lay {z : ps_X} (C : ps_C z cX4_lay 4 "PartSums") (Z : ps_Z z 4 165) {a1 : Int32} {a2 : Int32} {σ : ps_S}  {r : Int32 × ps_S} (h : fX4_lay a1 a2 σ = some r) (k : ps_KI z 4 cX4_lay r.1 r.2) : ps_at z 4 0 [(0, .ref (z_ad z 0)), (1, .int a1), (2, .int a2)] [] σ := by
  unfold fX4_lay at h
  refine ps_aload_n C (pc := 0) dX4_lay_0 0 rfl ?_
  refine pg_0_0 C (pc := 1) tw_206 dX4_lay_1 ?_
  refine ps_iload_n C (pc := 4) dX4_lay_4 1 rfl ?_
  obtain ⟨q1, hq1, h⟩ := ps_bd h
  refine ps_callVI C Z (pc := 5) (As := [.int a1]) (k0 := 1) (mX1_hasRow  hq1) (Cn := "PartSums$Ground") rfl tw_428 tw_429 tw_430 tw_66 tw_431 hdX1_hasRow rfl rfl ⟨by decide, by decide⟩ (by decide) ps_o1 rfl rfl (Nat.le_of_ble_eq_true rfl) dX4_lay_5 rfl ?_
  refine ps_if_eq C (pc := 8) 21 dX4_lay_8 (by decide) (fun hc => ?_) (fun hc => ?_)
  · have h := ps_ift hc h
    refine ps_iconst C (pc := 21) (v := -1) dX4_lay_21 (by decide) ?_
    obtain rfl := Option.some.inj h
    exact k _ _ dX4_lay_22
  · have h := ps_iff hc h
    refine ps_iload_n C (pc := 11) dX4_lay_11 2 rfl ?_
    refine ps_if_lt C (pc := 12) 21 dX4_lay_12 (by decide) (fun hc => ?_) (fun hc => ?_)
    · have h := ps_ift hc h
      refine ps_iconst C (pc := 21) (v := -1) dX4_lay_21 (by decide) ?_
      obtain rfl := Option.some.inj h
      exact k _ _ dX4_lay_22
    · have h := ps_iff hc h
      refine ps_iload_n C (pc := 15) dX4_lay_15 2 rfl ?_
      refine ps_bipush C (pc := 16) (v := 7) dX4_lay_16 (by decide) ?_
      refine ps_icmp_le C (pc := 18) 23 dX4_lay_18 (by decide) (fun hc => ?_) (fun hc => ?_)
      · have h := ps_ift hc h
        refine ps_aload_n C (pc := 23) dX4_lay_23 0 rfl ?_
        refine pg_0_0 C (pc := 24) tw_206 dX4_lay_24 ?_
        refine ps_iload_n C (pc := 27) dX4_lay_27 2 rfl ?_
        refine ps_aload_n C (pc := 28) dX4_lay_28 0 rfl ?_
        refine pg_0_6 C (pc := 29) tw_212 dX4_lay_29 ?_
        obtain ⟨q2, hq2, h⟩ := ps_bd h
        refine ps_callSV C Z (pc := 32) (As := [.ref (z_ad z 1), .int a2, .ref (z_ad z 42)]) (mX4_measureAll (by rfl) hq2) tw_454 tw_455 tw_65 tw_456 hdX4_measureAll rfl rfl ⟨by decide, by decide⟩ rfl (Nat.le_of_ble_eq_true rfl) dX4_lay_32 rfl ?_
        refine ps_iconst C (pc := 35) (v := 0) dX4_lay_35 (by decide) ?_
        refine ps_istore_n C (pc := 36) (lv' := [(3, .int (0 : Int32)), (0, .ref (z_ad z 0)), (1, .int a1), (2, .int a2)]) dX4_lay_36 (by decide) rfl ?_
        obtain ⟨e9, he9, h⟩ := ps_bd h
        refine ps_sub [1, 2, 0] rfl ?_
        refine ps_loop (P := pX4_lay_S37 z a1) (K := qX4_lay_S37 z a1) (fun s r h k => tX4_lay_S37 C Z a1  s r h k) _ _ _ he9 ?_
        unfold qX4_lay_S37
        refine ps_aload_n C (pc := 70) dX4_lay_70 0 rfl ?_
        refine ps_aload_n C (pc := 71) dX4_lay_71 0 rfl ?_
        refine pg_0_6 C (pc := 72) tw_212 dX4_lay_72 ?_
        refine ps_iload_n C (pc := 75) dX4_lay_75 1 rfl ?_
        obtain ⟨q10, hq10, h⟩ := ps_bd h
        refine ps_callVI C Z (pc := 76) (As := [.ref (z_ad z 42), .int a1]) (k0 := 0) (mX4_settle (by rfl) hq10) (Cn := "PartSums") rfl tw_469 tw_471 tw_11 tw_65 tw_472 hdX4_settle rfl rfl ⟨by decide, by decide⟩ (by decide) ps_o0 rfl rfl (Nat.le_of_ble_eq_true rfl) dX4_lay_76 rfl ?_
        obtain rfl := Option.some.inj h
        exact k _ _ dX4_lay_79
      · have h := ps_iff hc h
        refine ps_iconst C (pc := 21) (v := -1) dX4_lay_21 (by decide) ?_
        obtain rfl := Option.some.inj h
        exact k _ _ dX4_lay_22
def rmX4_lay : Room := { frames := 4, cells := 0, slots := 0, locals := 165 }
theorem mX4_lay {l : Launch} {E : ps_E} {σ : ps_S} {a1 : Int32} {a2 : Int32} {r : Int32 × ps_S}  (h : fX4_lay a1 a2 σ = some r) : ps_MI l yX4_lay (ps_wm yX4_lay cX4_lay 4 (some .int)) rmX4_lay [.ref (e_ad E 0), .int a1, .int a2] E σ r.1 r.2 :=
  ps_metI yX4_lay rmX4_lay 4 (own := "PartSums") r.1 (by decide +kernel) rfl (Nat.le_of_ble_eq_true rfl) rfl (fun z e1 e2 e3 e4 e5 C k => by
    subst e5
    exact tX4_lay C (ps_Zof e1 e3 e4)  h k)
theorem hdX4_lay : yX4_lay.cls ≠ "java/lang/invoke/MethodHandle" ∧ yX4_lay.cls ≠ "java/lang/invoke/VarHandle" ∧ (parseMethodDescriptor yX4_lay.desc).map (fun d => d.parameters.length) = some 2 := by decide +kernel
def fX4_sum (a1 : Int32) (a2 : Int32) (σ : ps_S) : Option (Int32 × ps_S) :=
  ((fX4_transformRow a1 a2 (0 : Int32) σ).bind fun q1 =>
  some (q1.1, q1.2))
set_option maxHeartbeats 4000000 in
set_option maxRecDepth 100000 in
theorem tX4_sum {z : ps_X} (C : ps_C z cX4_sum 3 "PartSums") (Z : ps_Z z 4 166) {a1 : Int32} {a2 : Int32} {σ : ps_S}  {r : Int32 × ps_S} (h : fX4_sum a1 a2 σ = some r) (k : ps_KI z 3 cX4_sum r.1 r.2) : ps_at z 3 0 [(0, .ref (z_ad z 0)), (1, .int a1), (2, .int a2)] [] σ := by
  unfold fX4_sum at h
  refine ps_aload_n C (pc := 0) dX4_sum_0 0 rfl ?_
  refine ps_iload_n C (pc := 1) dX4_sum_1 1 rfl ?_
  refine ps_iload_n C (pc := 2) dX4_sum_2 2 rfl ?_
  refine ps_iconst C (pc := 3) (v := 0) dX4_sum_3 (by decide) ?_
  obtain ⟨q1, hq1, h⟩ := ps_bd h
  refine ps_callVI C Z (pc := 4) (As := [.int a1, .int a2, .int (0 : Int32)]) (k0 := 0) (mX4_transformRow  hq1) (Cn := "PartSums") rfl tw_482 tw_484 tw_12 tw_65 tw_485 hdX4_transformRow rfl rfl ⟨by decide, by decide⟩ (by decide) ps_o0 rfl rfl (Nat.le_of_ble_eq_true rfl) dX4_sum_4 rfl ?_
  obtain rfl := Option.some.inj h
  exact k _ _ dX4_sum_7
def rmX4_sum : Room := { frames := 4, cells := 0, slots := 0, locals := 166 }
theorem mX4_sum {l : Launch} {E : ps_E} {σ : ps_S} {a1 : Int32} {a2 : Int32} {r : Int32 × ps_S}  (h : fX4_sum a1 a2 σ = some r) : ps_MI l yX4_sum (ps_wm yX4_sum cX4_sum 3 (some .int)) rmX4_sum [.ref (e_ad E 0), .int a1, .int a2] E σ r.1 r.2 :=
  ps_metI yX4_sum rmX4_sum 3 (own := "PartSums") r.1 (by decide +kernel) rfl (Nat.le_of_ble_eq_true rfl) rfl (fun z e1 e2 e3 e4 e5 C k => by
    subst e5
    exact tX4_sum C (ps_Zof e1 e3 e4)  h k)
theorem hdX4_sum : yX4_sum.cls ≠ "java/lang/invoke/MethodHandle" ∧ yX4_sum.cls ≠ "java/lang/invoke/VarHandle" ∧ (parseMethodDescriptor yX4_sum.desc).map (fun d => d.parameters.length) = some 2 := by decide +kernel
def fX4_back (a1 : Int32) (a2 : Int32) (σ : ps_S) : Option (Int32 × ps_S) :=
  ((fX4_transformRow a1 a2 (1 : Int32) σ).bind fun q1 =>
  some (q1.1, q1.2))
set_option maxHeartbeats 4000000 in
set_option maxRecDepth 100000 in
theorem tX4_back {z : ps_X} (C : ps_C z cX4_back 3 "PartSums") (Z : ps_Z z 4 166) {a1 : Int32} {a2 : Int32} {σ : ps_S}  {r : Int32 × ps_S} (h : fX4_back a1 a2 σ = some r) (k : ps_KI z 3 cX4_back r.1 r.2) : ps_at z 3 0 [(0, .ref (z_ad z 0)), (1, .int a1), (2, .int a2)] [] σ := by
  unfold fX4_back at h
  refine ps_aload_n C (pc := 0) dX4_back_0 0 rfl ?_
  refine ps_iload_n C (pc := 1) dX4_back_1 1 rfl ?_
  refine ps_iload_n C (pc := 2) dX4_back_2 2 rfl ?_
  refine ps_iconst C (pc := 3) (v := 1) dX4_back_3 (by decide) ?_
  obtain ⟨q1, hq1, h⟩ := ps_bd h
  refine ps_callVI C Z (pc := 4) (As := [.int a1, .int a2, .int (1 : Int32)]) (k0 := 0) (mX4_transformRow  hq1) (Cn := "PartSums") rfl tw_482 tw_484 tw_12 tw_65 tw_485 hdX4_transformRow rfl rfl ⟨by decide, by decide⟩ (by decide) ps_o0 rfl rfl (Nat.le_of_ble_eq_true rfl) dX4_back_4 rfl ?_
  obtain rfl := Option.some.inj h
  exact k _ _ dX4_back_7
def rmX4_back : Room := { frames := 4, cells := 0, slots := 0, locals := 166 }
theorem mX4_back {l : Launch} {E : ps_E} {σ : ps_S} {a1 : Int32} {a2 : Int32} {r : Int32 × ps_S}  (h : fX4_back a1 a2 σ = some r) : ps_MI l yX4_back (ps_wm yX4_back cX4_back 3 (some .int)) rmX4_back [.ref (e_ad E 0), .int a1, .int a2] E σ r.1 r.2 :=
  ps_metI yX4_back rmX4_back 3 (own := "PartSums") r.1 (by decide +kernel) rfl (Nat.le_of_ble_eq_true rfl) rfl (fun z e1 e2 e3 e4 e5 C k => by
    subst e5
    exact tX4_back C (ps_Zof e1 e3 e4)  h k)
theorem hdX4_back : yX4_back.cls ≠ "java/lang/invoke/MethodHandle" ∧ yX4_back.cls ≠ "java/lang/invoke/VarHandle" ∧ (parseMethodDescriptor yX4_back.desc).map (fun d => d.parameters.length) = some 2 := by decide +kernel
def fX4_times_J98 (a4 : Int32) (σ : ps_S) : Option (Int32 × ps_S) :=
  ((fX4_settle 42 a4 σ).bind fun q7 =>
  some (q7.1, q7.2))
set_option maxHeartbeats 4000000 in
set_option maxRecDepth 100000 in
theorem tX4_times_J98 {z : ps_X} (C : ps_C z cX4_times 5 "PartSums") (Z : ps_Z z 4 165) {a4 : Int32} {σ : ps_S}  {r : Int32 × ps_S} (h : fX4_times_J98 a4 σ = some r) (k : ps_KI z 5 cX4_times r.1 r.2) : ps_at z 5 98 [(0, .ref (z_ad z 0)), (4, .int a4)] [] σ := by
  unfold fX4_times_J98 at h
  refine ps_aload_n C (pc := 98) dX4_times_98 0 rfl ?_
  refine ps_aload_n C (pc := 99) dX4_times_99 0 rfl ?_
  refine pg_0_6 C (pc := 100) tw_212 dX4_times_100 ?_
  refine ps_iload C (pc := 103) dX4_times_103 1 rfl ?_
  obtain ⟨q7, hq7, h⟩ := ps_bd h
  refine ps_callVI C Z (pc := 105) (As := [.ref (z_ad z 42), .int a4]) (k0 := 0) (mX4_settle (by rfl) hq7) (Cn := "PartSums") rfl tw_469 tw_471 tw_11 tw_65 tw_472 hdX4_settle rfl rfl ⟨by decide, by decide⟩ (by decide) ps_o0 rfl rfl (Nat.le_of_ble_eq_true rfl) dX4_times_105 rfl ?_
  obtain rfl := Option.some.inj h
  exact k _ _ dX4_times_108
def fX4_times (a1 : Int32) (a2 : Int32) (a3 : Int32) (a4 : Int32) (σ : ps_S) : Option (Int32 × ps_S) :=
  ((fX1_hasRow a1 σ).bind fun q1 =>
  (if q1 = 0 then some ((-1 : Int32), σ)
  else ((fX1_hasRow a2 σ).bind fun q2 =>
  (if q2 = 0 then some ((-1 : Int32), σ)
  else ((fX1_hasRow a4 σ).bind fun q3 =>
  (if q3 = 0 then some ((-1 : Int32), σ)
  else (if a3 < 0 then some ((-1 : Int32), σ)
  else (if a3 ≤ (6 : Int32) then (if a3 = 0 then (ps_ck a1 5 ((ps_ck a2 5 (((fX4_multiplyApart (2 + 1 + (Int32.toNatClampNeg a1)) (2 + 1 + (Int32.toNatClampNeg a2)) σ).bind fun q10 =>
  fX4_times_J98 a4 q10)))))
  else (ps_ck a1 5 ((ps_ck a2 5 (((fX4_multiplyTransformed (2 + 1 + (Int32.toNatClampNeg a1)) (2 + 1 + (Int32.toNatClampNeg a2)) a3 σ).bind fun q6 =>
  fX4_times_J98 a4 q6))))))
  else some ((-1 : Int32), σ)))))))))
set_option maxHeartbeats 4000000 in
set_option maxRecDepth 100000 in
theorem tX4_times {z : ps_X} (C : ps_C z cX4_times 5 "PartSums") (Z : ps_Z z 4 165) {a1 : Int32} {a2 : Int32} {a3 : Int32} {a4 : Int32} {σ : ps_S}  {r : Int32 × ps_S} (h : fX4_times a1 a2 a3 a4 σ = some r) (k : ps_KI z 5 cX4_times r.1 r.2) : ps_at z 5 0 [(0, .ref (z_ad z 0)), (1, .int a1), (2, .int a2), (3, .int a3), (4, .int a4)] [] σ := by
  unfold fX4_times at h
  refine ps_aload_n C (pc := 0) dX4_times_0 0 rfl ?_
  refine pg_0_0 C (pc := 1) tw_206 dX4_times_1 ?_
  refine ps_iload_n C (pc := 4) dX4_times_4 1 rfl ?_
  obtain ⟨q1, hq1, h⟩ := ps_bd h
  refine ps_callVI C Z (pc := 5) (As := [.int a1]) (k0 := 1) (mX1_hasRow  hq1) (Cn := "PartSums$Ground") rfl tw_428 tw_429 tw_430 tw_66 tw_431 hdX1_hasRow rfl rfl ⟨by decide, by decide⟩ (by decide) ps_o1 rfl rfl (Nat.le_of_ble_eq_true rfl) dX4_times_5 rfl ?_
  refine ps_if_eq C (pc := 8) 44 dX4_times_8 (by decide) (fun hc => ?_) (fun hc => ?_)
  · have h := ps_ift hc h
    refine ps_iconst C (pc := 44) (v := -1) dX4_times_44 (by decide) ?_
    obtain rfl := Option.some.inj h
    exact k _ _ dX4_times_45
  · have h := ps_iff hc h
    refine ps_aload_n C (pc := 11) dX4_times_11 0 rfl ?_
    refine pg_0_0 C (pc := 12) tw_206 dX4_times_12 ?_
    refine ps_iload_n C (pc := 15) dX4_times_15 2 rfl ?_
    obtain ⟨q2, hq2, h⟩ := ps_bd h
    refine ps_callVI C Z (pc := 16) (As := [.int a2]) (k0 := 1) (mX1_hasRow  hq2) (Cn := "PartSums$Ground") rfl tw_428 tw_429 tw_430 tw_66 tw_431 hdX1_hasRow rfl rfl ⟨by decide, by decide⟩ (by decide) ps_o1 rfl rfl (Nat.le_of_ble_eq_true rfl) dX4_times_16 rfl ?_
    refine ps_if_eq C (pc := 19) 44 dX4_times_19 (by decide) (fun hc => ?_) (fun hc => ?_)
    · have h := ps_ift hc h
      refine ps_iconst C (pc := 44) (v := -1) dX4_times_44 (by decide) ?_
      obtain rfl := Option.some.inj h
      exact k _ _ dX4_times_45
    · have h := ps_iff hc h
      refine ps_aload_n C (pc := 22) dX4_times_22 0 rfl ?_
      refine pg_0_0 C (pc := 23) tw_206 dX4_times_23 ?_
      refine ps_iload C (pc := 26) dX4_times_26 4 rfl ?_
      obtain ⟨q3, hq3, h⟩ := ps_bd h
      refine ps_callVI C Z (pc := 28) (As := [.int a4]) (k0 := 1) (mX1_hasRow  hq3) (Cn := "PartSums$Ground") rfl tw_428 tw_429 tw_430 tw_66 tw_431 hdX1_hasRow rfl rfl ⟨by decide, by decide⟩ (by decide) ps_o1 rfl rfl (Nat.le_of_ble_eq_true rfl) dX4_times_28 rfl ?_
      refine ps_if_eq C (pc := 31) 44 dX4_times_31 (by decide) (fun hc => ?_) (fun hc => ?_)
      · have h := ps_ift hc h
        refine ps_iconst C (pc := 44) (v := -1) dX4_times_44 (by decide) ?_
        obtain rfl := Option.some.inj h
        exact k _ _ dX4_times_45
      · have h := ps_iff hc h
        refine ps_iload_n C (pc := 34) dX4_times_34 3 rfl ?_
        refine ps_if_lt C (pc := 35) 44 dX4_times_35 (by decide) (fun hc => ?_) (fun hc => ?_)
        · have h := ps_ift hc h
          refine ps_iconst C (pc := 44) (v := -1) dX4_times_44 (by decide) ?_
          obtain rfl := Option.some.inj h
          exact k _ _ dX4_times_45
        · have h := ps_iff hc h
          refine ps_iload_n C (pc := 38) dX4_times_38 3 rfl ?_
          refine ps_bipush C (pc := 39) (v := 6) dX4_times_39 (by decide) ?_
          refine ps_icmp_le C (pc := 41) 46 dX4_times_41 (by decide) (fun hc => ?_) (fun hc => ?_)
          · have h := ps_ift hc h
            refine ps_iload_n C (pc := 46) dX4_times_46 3 rfl ?_
            refine ps_if_ne C (pc := 47) 75 dX4_times_47 (by decide) (fun hc => ?_) (fun hc => ?_)
            · have h := ps_iff hc h
              refine ps_aload_n C (pc := 75) dX4_times_75 0 rfl ?_
              refine ps_aload_n C (pc := 76) dX4_times_76 0 rfl ?_
              refine pg_0_0 C (pc := 77) tw_206 dX4_times_77 ?_
              refine pg_1_3 C (pc := 80) tw_106 dX4_times_80 ?_
              refine ps_iload_n C (pc := 83) dX4_times_83 1 rfl ?_
              obtain ⟨hi4, h⟩ := ps_ck_s h
              refine ps_aald C (pc := 84) 2 rfl rfl hi4 dX4_times_84 ?_
              refine ps_aload_n C (pc := 85) dX4_times_85 0 rfl ?_
              refine pg_0_0 C (pc := 86) tw_206 dX4_times_86 ?_
              refine pg_1_3 C (pc := 89) tw_106 dX4_times_89 ?_
              refine ps_iload_n C (pc := 92) dX4_times_92 2 rfl ?_
              obtain ⟨hi5, h⟩ := ps_ck_s h
              refine ps_aald C (pc := 93) 2 rfl rfl hi5 dX4_times_93 ?_
              refine ps_iload_n C (pc := 94) dX4_times_94 3 rfl ?_
              obtain ⟨q6, hq6, h⟩ := ps_bd h
              refine ps_callVV C Z (pc := 95) (As := [.ref (z_ad z (2 + 1 + (Int32.toNatClampNeg a1))), .ref (z_ad z (2 + 1 + (Int32.toNatClampNeg a2))), .int a3]) (k0 := 0) (mX4_multiplyTransformed (ps_rw2 hi4).1 (ps_rw2 hi5).1 hq6) (Cn := "PartSums") rfl tw_505 tw_507 tw_14 tw_65 tw_508 hdX4_multiplyTransformed rfl rfl ⟨by decide, by decide⟩ (by decide) ps_o0 rfl rfl (Nat.le_of_ble_eq_true rfl) dX4_times_95 rfl ?_
              exact ps_sub [0, 4] rfl (tX4_times_J98 C Z  h k)
            · have h := ps_ift hc h
              refine ps_aload_n C (pc := 50) dX4_times_50 0 rfl ?_
              refine ps_aload_n C (pc := 51) dX4_times_51 0 rfl ?_
              refine pg_0_0 C (pc := 52) tw_206 dX4_times_52 ?_
              refine pg_1_3 C (pc := 55) tw_106 dX4_times_55 ?_
              refine ps_iload_n C (pc := 58) dX4_times_58 1 rfl ?_
              obtain ⟨hi8, h⟩ := ps_ck_s h
              refine ps_aald C (pc := 59) 2 rfl rfl hi8 dX4_times_59 ?_
              refine ps_aload_n C (pc := 60) dX4_times_60 0 rfl ?_
              refine pg_0_0 C (pc := 61) tw_206 dX4_times_61 ?_
              refine pg_1_3 C (pc := 64) tw_106 dX4_times_64 ?_
              refine ps_iload_n C (pc := 67) dX4_times_67 2 rfl ?_
              obtain ⟨hi9, h⟩ := ps_ck_s h
              refine ps_aald C (pc := 68) 2 rfl rfl hi9 dX4_times_68 ?_
              obtain ⟨q10, hq10, h⟩ := ps_bd h
              refine ps_callVV C Z (pc := 69) (As := [.ref (z_ad z (2 + 1 + (Int32.toNatClampNeg a1))), .ref (z_ad z (2 + 1 + (Int32.toNatClampNeg a2)))]) (k0 := 0) (mX4_multiplyApart (ps_rw2 hi8).1 (ps_rw2 hi9).1 hq10) (Cn := "PartSums") rfl tw_501 tw_503 tw_13 tw_65 tw_504 hdX4_multiplyApart rfl rfl ⟨by decide, by decide⟩ (by decide) ps_o0 rfl rfl (Nat.le_of_ble_eq_true rfl) dX4_times_69 rfl ?_
              refine ps_goto C (pc := 72) 98 dX4_times_72 (by decide) ?_
              exact ps_sub [0, 4] rfl (tX4_times_J98 C Z  h k)
          · have h := ps_iff hc h
            refine ps_iconst C (pc := 44) (v := -1) dX4_times_44 (by decide) ?_
            obtain rfl := Option.some.inj h
            exact k _ _ dX4_times_45
def rmX4_times : Room := { frames := 4, cells := 0, slots := 0, locals := 165 }
theorem mX4_times {l : Launch} {E : ps_E} {σ : ps_S} {a1 : Int32} {a2 : Int32} {a3 : Int32} {a4 : Int32} {r : Int32 × ps_S}  (h : fX4_times a1 a2 a3 a4 σ = some r) : ps_MI l yX4_times (ps_wm yX4_times cX4_times 5 (some .int)) rmX4_times [.ref (e_ad E 0), .int a1, .int a2, .int a3, .int a4] E σ r.1 r.2 :=
  ps_metI yX4_times rmX4_times 5 (own := "PartSums") r.1 (by decide +kernel) rfl (Nat.le_of_ble_eq_true rfl) rfl (fun z e1 e2 e3 e4 e5 C k => by
    subst e5
    exact tX4_times C (ps_Zof e1 e3 e4)  h k)
theorem hdX4_times : yX4_times.cls ≠ "java/lang/invoke/MethodHandle" ∧ yX4_times.cls ≠ "java/lang/invoke/VarHandle" ∧ (parseMethodDescriptor yX4_times.desc).map (fun d => d.parameters.length) = some 4 := by decide +kernel
def fX4_power (a1 : Int32) (a2 : Int32) (a3 : Int32) (σ : ps_S) : Option (Int32 × ps_S) :=
  ((fX1_hasRow a1 σ).bind fun q1 =>
  (if q1 = 0 then some ((-1 : Int32), σ)
  else ((fX1_hasRow a3 σ).bind fun q2 =>
  (if q2 = 0 then some ((-1 : Int32), σ)
  else (if a2 < 0 then some ((-1 : Int32), σ)
  else (if a2 ≤ (99 : Int32) then (ps_ck a1 5 ((ps_ck (0 : Int32) 256 (((fX3_slopesOfPower (σ.1 (2 + 1 + (Int32.toNatClampNeg a1)) (Int32.toNatClampNeg (0 : Int32))) a2 σ).bind fun q5 =>
  ((fX4_composeRow a1 a3 q5).bind fun q6 =>
  some (q6.1, q6.2)))))))
  else some ((-1 : Int32), σ)))))))
set_option maxHeartbeats 4000000 in
set_option maxRecDepth 100000 in
theorem tX4_power {z : ps_X} (C : ps_C z cX4_power 4 "PartSums") (Z : ps_Z z 5 188) {a1 : Int32} {a2 : Int32} {a3 : Int32} {σ : ps_S}  {r : Int32 × ps_S} (h : fX4_power a1 a2 a3 σ = some r) (k : ps_KI z 4 cX4_power r.1 r.2) : ps_at z 4 0 [(0, .ref (z_ad z 0)), (1, .int a1), (2, .int a2), (3, .int a3)] [] σ := by
  unfold fX4_power at h
  refine ps_aload_n C (pc := 0) dX4_power_0 0 rfl ?_
  refine pg_0_0 C (pc := 1) tw_206 dX4_power_1 ?_
  refine ps_iload_n C (pc := 4) dX4_power_4 1 rfl ?_
  obtain ⟨q1, hq1, h⟩ := ps_bd h
  refine ps_callVI C Z (pc := 5) (As := [.int a1]) (k0 := 1) (mX1_hasRow  hq1) (Cn := "PartSums$Ground") rfl tw_428 tw_429 tw_430 tw_66 tw_431 hdX1_hasRow rfl rfl ⟨by decide, by decide⟩ (by decide) ps_o1 rfl rfl (Nat.le_of_ble_eq_true rfl) dX4_power_5 rfl ?_
  refine ps_if_eq C (pc := 8) 32 dX4_power_8 (by decide) (fun hc => ?_) (fun hc => ?_)
  · have h := ps_ift hc h
    refine ps_iconst C (pc := 32) (v := -1) dX4_power_32 (by decide) ?_
    obtain rfl := Option.some.inj h
    exact k _ _ dX4_power_33
  · have h := ps_iff hc h
    refine ps_aload_n C (pc := 11) dX4_power_11 0 rfl ?_
    refine pg_0_0 C (pc := 12) tw_206 dX4_power_12 ?_
    refine ps_iload_n C (pc := 15) dX4_power_15 3 rfl ?_
    obtain ⟨q2, hq2, h⟩ := ps_bd h
    refine ps_callVI C Z (pc := 16) (As := [.int a3]) (k0 := 1) (mX1_hasRow  hq2) (Cn := "PartSums$Ground") rfl tw_428 tw_429 tw_430 tw_66 tw_431 hdX1_hasRow rfl rfl ⟨by decide, by decide⟩ (by decide) ps_o1 rfl rfl (Nat.le_of_ble_eq_true rfl) dX4_power_16 rfl ?_
    refine ps_if_eq C (pc := 19) 32 dX4_power_19 (by decide) (fun hc => ?_) (fun hc => ?_)
    · have h := ps_ift hc h
      refine ps_iconst C (pc := 32) (v := -1) dX4_power_32 (by decide) ?_
      obtain rfl := Option.some.inj h
      exact k _ _ dX4_power_33
    · have h := ps_iff hc h
      refine ps_iload_n C (pc := 22) dX4_power_22 2 rfl ?_
      refine ps_if_lt C (pc := 23) 32 dX4_power_23 (by decide) (fun hc => ?_) (fun hc => ?_)
      · have h := ps_ift hc h
        refine ps_iconst C (pc := 32) (v := -1) dX4_power_32 (by decide) ?_
        obtain rfl := Option.some.inj h
        exact k _ _ dX4_power_33
      · have h := ps_iff hc h
        refine ps_iload_n C (pc := 26) dX4_power_26 2 rfl ?_
        refine ps_bipush C (pc := 27) (v := 99) dX4_power_27 (by decide) ?_
        refine ps_icmp_le C (pc := 29) 34 dX4_power_29 (by decide) (fun hc => ?_) (fun hc => ?_)
        · have h := ps_ift hc h
          refine ps_aload_n C (pc := 34) dX4_power_34 0 rfl ?_
          refine pg_0_5 C (pc := 35) tw_211 dX4_power_35 ?_
          refine ps_aload_n C (pc := 38) dX4_power_38 0 rfl ?_
          refine pg_0_0 C (pc := 39) tw_206 dX4_power_39 ?_
          refine pg_1_3 C (pc := 42) tw_106 dX4_power_42 ?_
          refine ps_iload_n C (pc := 45) dX4_power_45 1 rfl ?_
          obtain ⟨hi3, h⟩ := ps_ck_s h
          refine ps_aald C (pc := 46) 2 rfl rfl hi3 dX4_power_46 ?_
          refine ps_iconst C (pc := 47) (v := 0) dX4_power_47 (by decide) ?_
          obtain ⟨hi4, h⟩ := ps_ck_s h
          refine ps_iald C (pc := 48) (2 + 1 + (Int32.toNatClampNeg a1)) (ps_rw2 hi3).1 (ps_rw2 hi3).2 hi4 dX4_power_48 ?_
          refine ps_iload_n C (pc := 49) dX4_power_49 2 rfl ?_
          obtain ⟨q5, hq5, h⟩ := ps_bd h
          refine ps_callVV C Z (pc := 50) (As := [.int (σ.1 (2 + 1 + (Int32.toNatClampNeg a1)) (Int32.toNatClampNeg (0 : Int32))), .int a2]) (k0 := 39) (mX3_slopesOfPower  hq5) (Cn := "PartSums$Series") rfl tw_516 tw_517 tw_518 tw_69 tw_519 hdX3_slopesOfPower rfl rfl ⟨by decide, by decide⟩ (by decide) ps_o39 rfl rfl (Nat.le_of_ble_eq_true rfl) dX4_power_50 rfl ?_
          refine ps_aload_n C (pc := 53) dX4_power_53 0 rfl ?_
          refine ps_iload_n C (pc := 54) dX4_power_54 1 rfl ?_
          refine ps_iload_n C (pc := 55) dX4_power_55 3 rfl ?_
          obtain ⟨q6, hq6, h⟩ := ps_bd h
          refine ps_callVI C Z (pc := 56) (As := [.int a1, .int a3]) (k0 := 0) (mX4_composeRow  hq6) (Cn := "PartSums") rfl tw_528 tw_530 tw_15 tw_65 tw_531 hdX4_composeRow rfl rfl ⟨by decide, by decide⟩ (by decide) ps_o0 rfl rfl (Nat.le_of_ble_eq_true rfl) dX4_power_56 rfl ?_
          obtain rfl := Option.some.inj h
          exact k _ _ dX4_power_59
        · have h := ps_iff hc h
          refine ps_iconst C (pc := 32) (v := -1) dX4_power_32 (by decide) ?_
          obtain rfl := Option.some.inj h
          exact k _ _ dX4_power_33
def rmX4_power : Room := { frames := 5, cells := 0, slots := 0, locals := 188 }
theorem mX4_power {l : Launch} {E : ps_E} {σ : ps_S} {a1 : Int32} {a2 : Int32} {a3 : Int32} {r : Int32 × ps_S}  (h : fX4_power a1 a2 a3 σ = some r) : ps_MI l yX4_power (ps_wm yX4_power cX4_power 4 (some .int)) rmX4_power [.ref (e_ad E 0), .int a1, .int a2, .int a3] E σ r.1 r.2 :=
  ps_metI yX4_power rmX4_power 4 (own := "PartSums") r.1 (by decide +kernel) rfl (Nat.le_of_ble_eq_true rfl) rfl (fun z e1 e2 e3 e4 e5 C k => by
    subst e5
    exact tX4_power C (ps_Zof e1 e3 e4)  h k)
theorem hdX4_power : yX4_power.cls ≠ "java/lang/invoke/MethodHandle" ∧ yX4_power.cls ≠ "java/lang/invoke/VarHandle" ∧ (parseMethodDescriptor yX4_power.desc).map (fun d => d.parameters.length) = some 3 := by decide +kernel
def fX4_inverse (a1 : Int32) (a2 : Int32) (σ : ps_S) : Option (Int32 × ps_S) :=
  ((fX1_hasRow a1 σ).bind fun q1 =>
  (if q1 = 0 then some ((-1 : Int32), σ)
  else ((fX1_hasRow a2 σ).bind fun q2 =>
  (if q2 = 0 then some ((-1 : Int32), σ)
  else (ps_ck a1 5 ((ps_ck (0 : Int32) 256 ((if (σ.1 (2 + 1 + (Int32.toNatClampNeg a1)) (Int32.toNatClampNeg (0 : Int32))) = 0 then some ((-1 : Int32), σ)
  else (ps_ck a1 5 ((ps_ck (0 : Int32) 256 (((fX3_slopesOfInverse (σ.1 (2 + 1 + (Int32.toNatClampNeg a1)) (Int32.toNatClampNeg (0 : Int32))) σ).bind fun q7 =>
  ((fX4_composeRow a1 a2 q7).bind fun q8 =>
  some (q8.1, q8.2))))))))))))))))
set_option maxHeartbeats 4000000 in
set_option maxRecDepth 100000 in
theorem tX4_inverse {z : ps_X} (C : ps_C z cX4_inverse 3 "PartSums") (Z : ps_Z z 5 188) {a1 : Int32} {a2 : Int32} {σ : ps_S}  {r : Int32 × ps_S} (h : fX4_inverse a1 a2 σ = some r) (k : ps_KI z 3 cX4_inverse r.1 r.2) : ps_at z 3 0 [(0, .ref (z_ad z 0)), (1, .int a1), (2, .int a2)] [] σ := by
  unfold fX4_inverse at h
  refine ps_aload_n C (pc := 0) dX4_inverse_0 0 rfl ?_
  refine pg_0_0 C (pc := 1) tw_206 dX4_inverse_1 ?_
  refine ps_iload_n C (pc := 4) dX4_inverse_4 1 rfl ?_
  obtain ⟨q1, hq1, h⟩ := ps_bd h
  refine ps_callVI C Z (pc := 5) (As := [.int a1]) (k0 := 1) (mX1_hasRow  hq1) (Cn := "PartSums$Ground") rfl tw_428 tw_429 tw_430 tw_66 tw_431 hdX1_hasRow rfl rfl ⟨by decide, by decide⟩ (by decide) ps_o1 rfl rfl (Nat.le_of_ble_eq_true rfl) dX4_inverse_5 rfl ?_
  refine ps_if_eq C (pc := 8) 36 dX4_inverse_8 (by decide) (fun hc => ?_) (fun hc => ?_)
  · have h := ps_ift hc h
    refine ps_iconst C (pc := 36) (v := -1) dX4_inverse_36 (by decide) ?_
    obtain rfl := Option.some.inj h
    exact k _ _ dX4_inverse_37
  · have h := ps_iff hc h
    refine ps_aload_n C (pc := 11) dX4_inverse_11 0 rfl ?_
    refine pg_0_0 C (pc := 12) tw_206 dX4_inverse_12 ?_
    refine ps_iload_n C (pc := 15) dX4_inverse_15 2 rfl ?_
    obtain ⟨q2, hq2, h⟩ := ps_bd h
    refine ps_callVI C Z (pc := 16) (As := [.int a2]) (k0 := 1) (mX1_hasRow  hq2) (Cn := "PartSums$Ground") rfl tw_428 tw_429 tw_430 tw_66 tw_431 hdX1_hasRow rfl rfl ⟨by decide, by decide⟩ (by decide) ps_o1 rfl rfl (Nat.le_of_ble_eq_true rfl) dX4_inverse_16 rfl ?_
    refine ps_if_eq C (pc := 19) 36 dX4_inverse_19 (by decide) (fun hc => ?_) (fun hc => ?_)
    · have h := ps_ift hc h
      refine ps_iconst C (pc := 36) (v := -1) dX4_inverse_36 (by decide) ?_
      obtain rfl := Option.some.inj h
      exact k _ _ dX4_inverse_37
    · have h := ps_iff hc h
      refine ps_aload_n C (pc := 22) dX4_inverse_22 0 rfl ?_
      refine pg_0_0 C (pc := 23) tw_206 dX4_inverse_23 ?_
      refine pg_1_3 C (pc := 26) tw_106 dX4_inverse_26 ?_
      refine ps_iload_n C (pc := 29) dX4_inverse_29 1 rfl ?_
      obtain ⟨hi3, h⟩ := ps_ck_s h
      refine ps_aald C (pc := 30) 2 rfl rfl hi3 dX4_inverse_30 ?_
      refine ps_iconst C (pc := 31) (v := 0) dX4_inverse_31 (by decide) ?_
      obtain ⟨hi4, h⟩ := ps_ck_s h
      refine ps_iald C (pc := 32) (2 + 1 + (Int32.toNatClampNeg a1)) (ps_rw2 hi3).1 (ps_rw2 hi3).2 hi4 dX4_inverse_32 ?_
      refine ps_if_ne C (pc := 33) 38 dX4_inverse_33 (by decide) (fun hc => ?_) (fun hc => ?_)
      · have h := ps_iff hc h
        refine ps_aload_n C (pc := 38) dX4_inverse_38 0 rfl ?_
        refine pg_0_5 C (pc := 39) tw_211 dX4_inverse_39 ?_
        refine ps_aload_n C (pc := 42) dX4_inverse_42 0 rfl ?_
        refine pg_0_0 C (pc := 43) tw_206 dX4_inverse_43 ?_
        refine pg_1_3 C (pc := 46) tw_106 dX4_inverse_46 ?_
        refine ps_iload_n C (pc := 49) dX4_inverse_49 1 rfl ?_
        obtain ⟨hi5, h⟩ := ps_ck_s h
        refine ps_aald C (pc := 50) 2 rfl rfl hi5 dX4_inverse_50 ?_
        refine ps_iconst C (pc := 51) (v := 0) dX4_inverse_51 (by decide) ?_
        obtain ⟨hi6, h⟩ := ps_ck_s h
        refine ps_iald C (pc := 52) (2 + 1 + (Int32.toNatClampNeg a1)) (ps_rw2 hi5).1 (ps_rw2 hi5).2 hi6 dX4_inverse_52 ?_
        obtain ⟨q7, hq7, h⟩ := ps_bd h
        refine ps_callVV C Z (pc := 53) (As := [.int (σ.1 (2 + 1 + (Int32.toNatClampNeg a1)) (Int32.toNatClampNeg (0 : Int32)))]) (k0 := 39) (mX3_slopesOfInverse  hq7) (Cn := "PartSums$Series") rfl tw_545 tw_546 tw_547 tw_69 tw_548 hdX3_slopesOfInverse rfl rfl ⟨by decide, by decide⟩ (by decide) ps_o39 rfl rfl (Nat.le_of_ble_eq_true rfl) dX4_inverse_53 rfl ?_
        refine ps_aload_n C (pc := 56) dX4_inverse_56 0 rfl ?_
        refine ps_iload_n C (pc := 57) dX4_inverse_57 1 rfl ?_
        refine ps_iload_n C (pc := 58) dX4_inverse_58 2 rfl ?_
        obtain ⟨q8, hq8, h⟩ := ps_bd h
        refine ps_callVI C Z (pc := 59) (As := [.int a1, .int a2]) (k0 := 0) (mX4_composeRow  hq8) (Cn := "PartSums") rfl tw_528 tw_530 tw_15 tw_65 tw_531 hdX4_composeRow rfl rfl ⟨by decide, by decide⟩ (by decide) ps_o0 rfl rfl (Nat.le_of_ble_eq_true rfl) dX4_inverse_59 rfl ?_
        obtain rfl := Option.some.inj h
        exact k _ _ dX4_inverse_62
      · have h := ps_ift hc h
        refine ps_iconst C (pc := 36) (v := -1) dX4_inverse_36 (by decide) ?_
        obtain rfl := Option.some.inj h
        exact k _ _ dX4_inverse_37
def rmX4_inverse : Room := { frames := 5, cells := 0, slots := 0, locals := 188 }
theorem mX4_inverse {l : Launch} {E : ps_E} {σ : ps_S} {a1 : Int32} {a2 : Int32} {r : Int32 × ps_S}  (h : fX4_inverse a1 a2 σ = some r) : ps_MI l yX4_inverse (ps_wm yX4_inverse cX4_inverse 3 (some .int)) rmX4_inverse [.ref (e_ad E 0), .int a1, .int a2] E σ r.1 r.2 :=
  ps_metI yX4_inverse rmX4_inverse 3 (own := "PartSums") r.1 (by decide +kernel) rfl (Nat.le_of_ble_eq_true rfl) rfl (fun z e1 e2 e3 e4 e5 C k => by
    subst e5
    exact tX4_inverse C (ps_Zof e1 e3 e4)  h k)
theorem hdX4_inverse : yX4_inverse.cls ≠ "java/lang/invoke/MethodHandle" ∧ yX4_inverse.cls ≠ "java/lang/invoke/VarHandle" ∧ (parseMethodDescriptor yX4_inverse.desc).map (fun d => d.parameters.length) = some 2 := by decide +kernel
def fX4_allWays (a1 : Int32) (a2 : Int32) (σ : ps_S) : Option (Int32 × ps_S) :=
  ((fX1_hasRow a1 σ).bind fun q1 =>
  (if q1 = 0 then some ((-1 : Int32), σ)
  else ((fX1_hasRow a2 σ).bind fun q2 =>
  (if q2 = 0 then some ((-1 : Int32), σ)
  else (ps_ck a1 5 ((ps_ck (0 : Int32) 256 ((if (σ.1 (2 + 1 + (Int32.toNatClampNeg a1)) (Int32.toNatClampNeg (0 : Int32))) = 0 then ((fX3_slopesOfAllWays σ).bind fun q5 =>
  ((fX4_composeRow a1 a2 q5).bind fun q6 =>
  some (q6.1, q6.2)))
  else some ((-1 : Int32), σ))))))))))
set_option maxHeartbeats 4000000 in
set_option maxRecDepth 100000 in
theorem tX4_allWays {z : ps_X} (C : ps_C z cX4_allWays 3 "PartSums") (Z : ps_Z z 5 188) {a1 : Int32} {a2 : Int32} {σ : ps_S}  {r : Int32 × ps_S} (h : fX4_allWays a1 a2 σ = some r) (k : ps_KI z 3 cX4_allWays r.1 r.2) : ps_at z 3 0 [(0, .ref (z_ad z 0)), (1, .int a1), (2, .int a2)] [] σ := by
  unfold fX4_allWays at h
  refine ps_aload_n C (pc := 0) dX4_allWays_0 0 rfl ?_
  refine pg_0_0 C (pc := 1) tw_206 dX4_allWays_1 ?_
  refine ps_iload_n C (pc := 4) dX4_allWays_4 1 rfl ?_
  obtain ⟨q1, hq1, h⟩ := ps_bd h
  refine ps_callVI C Z (pc := 5) (As := [.int a1]) (k0 := 1) (mX1_hasRow  hq1) (Cn := "PartSums$Ground") rfl tw_428 tw_429 tw_430 tw_66 tw_431 hdX1_hasRow rfl rfl ⟨by decide, by decide⟩ (by decide) ps_o1 rfl rfl (Nat.le_of_ble_eq_true rfl) dX4_allWays_5 rfl ?_
  refine ps_if_eq C (pc := 8) 36 dX4_allWays_8 (by decide) (fun hc => ?_) (fun hc => ?_)
  · have h := ps_ift hc h
    refine ps_iconst C (pc := 36) (v := -1) dX4_allWays_36 (by decide) ?_
    obtain rfl := Option.some.inj h
    exact k _ _ dX4_allWays_37
  · have h := ps_iff hc h
    refine ps_aload_n C (pc := 11) dX4_allWays_11 0 rfl ?_
    refine pg_0_0 C (pc := 12) tw_206 dX4_allWays_12 ?_
    refine ps_iload_n C (pc := 15) dX4_allWays_15 2 rfl ?_
    obtain ⟨q2, hq2, h⟩ := ps_bd h
    refine ps_callVI C Z (pc := 16) (As := [.int a2]) (k0 := 1) (mX1_hasRow  hq2) (Cn := "PartSums$Ground") rfl tw_428 tw_429 tw_430 tw_66 tw_431 hdX1_hasRow rfl rfl ⟨by decide, by decide⟩ (by decide) ps_o1 rfl rfl (Nat.le_of_ble_eq_true rfl) dX4_allWays_16 rfl ?_
    refine ps_if_eq C (pc := 19) 36 dX4_allWays_19 (by decide) (fun hc => ?_) (fun hc => ?_)
    · have h := ps_ift hc h
      refine ps_iconst C (pc := 36) (v := -1) dX4_allWays_36 (by decide) ?_
      obtain rfl := Option.some.inj h
      exact k _ _ dX4_allWays_37
    · have h := ps_iff hc h
      refine ps_aload_n C (pc := 22) dX4_allWays_22 0 rfl ?_
      refine pg_0_0 C (pc := 23) tw_206 dX4_allWays_23 ?_
      refine pg_1_3 C (pc := 26) tw_106 dX4_allWays_26 ?_
      refine ps_iload_n C (pc := 29) dX4_allWays_29 1 rfl ?_
      obtain ⟨hi3, h⟩ := ps_ck_s h
      refine ps_aald C (pc := 30) 2 rfl rfl hi3 dX4_allWays_30 ?_
      refine ps_iconst C (pc := 31) (v := 0) dX4_allWays_31 (by decide) ?_
      obtain ⟨hi4, h⟩ := ps_ck_s h
      refine ps_iald C (pc := 32) (2 + 1 + (Int32.toNatClampNeg a1)) (ps_rw2 hi3).1 (ps_rw2 hi3).2 hi4 dX4_allWays_32 ?_
      refine ps_if_eq C (pc := 33) 38 dX4_allWays_33 (by decide) (fun hc => ?_) (fun hc => ?_)
      · have h := ps_ift hc h
        refine ps_aload_n C (pc := 38) dX4_allWays_38 0 rfl ?_
        refine pg_0_5 C (pc := 39) tw_211 dX4_allWays_39 ?_
        obtain ⟨q5, hq5, h⟩ := ps_bd h
        refine ps_callVV C Z (pc := 42) (As := []) (k0 := 39) (mX3_slopesOfAllWays  hq5) (Cn := "PartSums$Series") rfl tw_554 tw_555 tw_556 tw_69 tw_557 hdX3_slopesOfAllWays rfl rfl ⟨by decide, by decide⟩ (by decide) ps_o39 rfl rfl (Nat.le_of_ble_eq_true rfl) dX4_allWays_42 rfl ?_
        refine ps_aload_n C (pc := 45) dX4_allWays_45 0 rfl ?_
        refine ps_iload_n C (pc := 46) dX4_allWays_46 1 rfl ?_
        refine ps_iload_n C (pc := 47) dX4_allWays_47 2 rfl ?_
        obtain ⟨q6, hq6, h⟩ := ps_bd h
        refine ps_callVI C Z (pc := 48) (As := [.int a1, .int a2]) (k0 := 0) (mX4_composeRow  hq6) (Cn := "PartSums") rfl tw_528 tw_530 tw_15 tw_65 tw_531 hdX4_composeRow rfl rfl ⟨by decide, by decide⟩ (by decide) ps_o0 rfl rfl (Nat.le_of_ble_eq_true rfl) dX4_allWays_48 rfl ?_
        obtain rfl := Option.some.inj h
        exact k _ _ dX4_allWays_51
      · have h := ps_iff hc h
        refine ps_iconst C (pc := 36) (v := -1) dX4_allWays_36 (by decide) ?_
        obtain rfl := Option.some.inj h
        exact k _ _ dX4_allWays_37
def rmX4_allWays : Room := { frames := 5, cells := 0, slots := 0, locals := 188 }
theorem mX4_allWays {l : Launch} {E : ps_E} {σ : ps_S} {a1 : Int32} {a2 : Int32} {r : Int32 × ps_S}  (h : fX4_allWays a1 a2 σ = some r) : ps_MI l yX4_allWays (ps_wm yX4_allWays cX4_allWays 3 (some .int)) rmX4_allWays [.ref (e_ad E 0), .int a1, .int a2] E σ r.1 r.2 :=
  ps_metI yX4_allWays rmX4_allWays 3 (own := "PartSums") r.1 (by decide +kernel) rfl (Nat.le_of_ble_eq_true rfl) rfl (fun z e1 e2 e3 e4 e5 C k => by
    subst e5
    exact tX4_allWays C (ps_Zof e1 e3 e4)  h k)
theorem hdX4_allWays : yX4_allWays.cls ≠ "java/lang/invoke/MethodHandle" ∧ yX4_allWays.cls ≠ "java/lang/invoke/VarHandle" ∧ (parseMethodDescriptor yX4_allWays.desc).map (fun d => d.parameters.length) = some 2 := by decide +kernel
def fX4_roots (a1 : Int32) (a2 : Int32) (σ : ps_S) : Option (Int32 × ps_S) :=
  ((fX1_hasRow a1 σ).bind fun q1 =>
  (if q1 = 0 then some ((-1 : Int32), σ)
  else ((fX1_hasRow a2 σ).bind fun q2 =>
  (if q2 = 0 then some ((-1 : Int32), σ)
  else (ps_ck a1 5 ((ps_ck (0 : Int32) 256 ((if (σ.1 (2 + 1 + (Int32.toNatClampNeg a1)) (Int32.toNatClampNeg (0 : Int32))) = (1 : Int32) then ((fX3_slopesOfRoots σ).bind fun q5 =>
  ((fX4_composeRow a1 a2 q5).bind fun q6 =>
  some (q6.1, q6.2)))
  else some ((-1 : Int32), σ))))))))))
set_option maxHeartbeats 4000000 in
set_option maxRecDepth 100000 in
theorem tX4_roots {z : ps_X} (C : ps_C z cX4_roots 3 "PartSums") (Z : ps_Z z 5 188) {a1 : Int32} {a2 : Int32} {σ : ps_S}  {r : Int32 × ps_S} (h : fX4_roots a1 a2 σ = some r) (k : ps_KI z 3 cX4_roots r.1 r.2) : ps_at z 3 0 [(0, .ref (z_ad z 0)), (1, .int a1), (2, .int a2)] [] σ := by
  unfold fX4_roots at h
  refine ps_aload_n C (pc := 0) dX4_roots_0 0 rfl ?_
  refine pg_0_0 C (pc := 1) tw_206 dX4_roots_1 ?_
  refine ps_iload_n C (pc := 4) dX4_roots_4 1 rfl ?_
  obtain ⟨q1, hq1, h⟩ := ps_bd h
  refine ps_callVI C Z (pc := 5) (As := [.int a1]) (k0 := 1) (mX1_hasRow  hq1) (Cn := "PartSums$Ground") rfl tw_428 tw_429 tw_430 tw_66 tw_431 hdX1_hasRow rfl rfl ⟨by decide, by decide⟩ (by decide) ps_o1 rfl rfl (Nat.le_of_ble_eq_true rfl) dX4_roots_5 rfl ?_
  refine ps_if_eq C (pc := 8) 37 dX4_roots_8 (by decide) (fun hc => ?_) (fun hc => ?_)
  · have h := ps_ift hc h
    refine ps_iconst C (pc := 37) (v := -1) dX4_roots_37 (by decide) ?_
    obtain rfl := Option.some.inj h
    exact k _ _ dX4_roots_38
  · have h := ps_iff hc h
    refine ps_aload_n C (pc := 11) dX4_roots_11 0 rfl ?_
    refine pg_0_0 C (pc := 12) tw_206 dX4_roots_12 ?_
    refine ps_iload_n C (pc := 15) dX4_roots_15 2 rfl ?_
    obtain ⟨q2, hq2, h⟩ := ps_bd h
    refine ps_callVI C Z (pc := 16) (As := [.int a2]) (k0 := 1) (mX1_hasRow  hq2) (Cn := "PartSums$Ground") rfl tw_428 tw_429 tw_430 tw_66 tw_431 hdX1_hasRow rfl rfl ⟨by decide, by decide⟩ (by decide) ps_o1 rfl rfl (Nat.le_of_ble_eq_true rfl) dX4_roots_16 rfl ?_
    refine ps_if_eq C (pc := 19) 37 dX4_roots_19 (by decide) (fun hc => ?_) (fun hc => ?_)
    · have h := ps_ift hc h
      refine ps_iconst C (pc := 37) (v := -1) dX4_roots_37 (by decide) ?_
      obtain rfl := Option.some.inj h
      exact k _ _ dX4_roots_38
    · have h := ps_iff hc h
      refine ps_aload_n C (pc := 22) dX4_roots_22 0 rfl ?_
      refine pg_0_0 C (pc := 23) tw_206 dX4_roots_23 ?_
      refine pg_1_3 C (pc := 26) tw_106 dX4_roots_26 ?_
      refine ps_iload_n C (pc := 29) dX4_roots_29 1 rfl ?_
      obtain ⟨hi3, h⟩ := ps_ck_s h
      refine ps_aald C (pc := 30) 2 rfl rfl hi3 dX4_roots_30 ?_
      refine ps_iconst C (pc := 31) (v := 0) dX4_roots_31 (by decide) ?_
      obtain ⟨hi4, h⟩ := ps_ck_s h
      refine ps_iald C (pc := 32) (2 + 1 + (Int32.toNatClampNeg a1)) (ps_rw2 hi3).1 (ps_rw2 hi3).2 hi4 dX4_roots_32 ?_
      refine ps_iconst C (pc := 33) (v := 1) dX4_roots_33 (by decide) ?_
      refine ps_icmp_eq C (pc := 34) 39 dX4_roots_34 (by decide) (fun hc => ?_) (fun hc => ?_)
      · have h := ps_ift hc h
        refine ps_aload_n C (pc := 39) dX4_roots_39 0 rfl ?_
        refine pg_0_5 C (pc := 40) tw_211 dX4_roots_40 ?_
        obtain ⟨q5, hq5, h⟩ := ps_bd h
        refine ps_callVV C Z (pc := 43) (As := []) (k0 := 39) (mX3_slopesOfRoots  hq5) (Cn := "PartSums$Series") rfl tw_562 tw_563 tw_564 tw_69 tw_565 hdX3_slopesOfRoots rfl rfl ⟨by decide, by decide⟩ (by decide) ps_o39 rfl rfl (Nat.le_of_ble_eq_true rfl) dX4_roots_43 rfl ?_
        refine ps_aload_n C (pc := 46) dX4_roots_46 0 rfl ?_
        refine ps_iload_n C (pc := 47) dX4_roots_47 1 rfl ?_
        refine ps_iload_n C (pc := 48) dX4_roots_48 2 rfl ?_
        obtain ⟨q6, hq6, h⟩ := ps_bd h
        refine ps_callVI C Z (pc := 49) (As := [.int a1, .int a2]) (k0 := 0) (mX4_composeRow  hq6) (Cn := "PartSums") rfl tw_528 tw_530 tw_15 tw_65 tw_531 hdX4_composeRow rfl rfl ⟨by decide, by decide⟩ (by decide) ps_o0 rfl rfl (Nat.le_of_ble_eq_true rfl) dX4_roots_49 rfl ?_
        obtain rfl := Option.some.inj h
        exact k _ _ dX4_roots_52
      · have h := ps_iff hc h
        refine ps_iconst C (pc := 37) (v := -1) dX4_roots_37 (by decide) ?_
        obtain rfl := Option.some.inj h
        exact k _ _ dX4_roots_38
def rmX4_roots : Room := { frames := 5, cells := 0, slots := 0, locals := 188 }
theorem mX4_roots {l : Launch} {E : ps_E} {σ : ps_S} {a1 : Int32} {a2 : Int32} {r : Int32 × ps_S}  (h : fX4_roots a1 a2 σ = some r) : ps_MI l yX4_roots (ps_wm yX4_roots cX4_roots 3 (some .int)) rmX4_roots [.ref (e_ad E 0), .int a1, .int a2] E σ r.1 r.2 :=
  ps_metI yX4_roots rmX4_roots 3 (own := "PartSums") r.1 (by decide +kernel) rfl (Nat.le_of_ble_eq_true rfl) rfl (fun z e1 e2 e3 e4 e5 C k => by
    subst e5
    exact tX4_roots C (ps_Zof e1 e3 e4)  h k)
theorem hdX4_roots : yX4_roots.cls ≠ "java/lang/invoke/MethodHandle" ∧ yX4_roots.cls ≠ "java/lang/invoke/VarHandle" ∧ (parseMethodDescriptor yX4_roots.desc).map (fun d => d.parameters.length) = some 2 := by decide +kernel
def pX4_covers_S53 (z : ps_X) (a1 : Int32) (a2 : Int32) (s : Int32 × ps_S) : Prop := ps_at z 4 53 [(0, .ref (z_ad z 0)), (1, .int a1), (2, .int a2), (3, .int s.1)] [] s.2
def qX4_covers_S53 (z : ps_X) (a1 : Int32) (a2 : Int32) (x : (ps_S)) : Prop := match x with | y => ps_at z 4 86 [(0, .ref (z_ad z 0)), (1, .int a1)] [] y
def fX4_covers_S53 (a1 : Int32) (a2 : Int32) (a3 : Int32) (σ : ps_S) : Option ((Int32 × ps_S) ⊕ ((ps_S))) :=
  ((fX1_countSets σ).bind fun q4 =>
  (if q4 ≤ a3 then some (.inr σ)
  else (ps_ck a3 256 (((fX4_raise (σ.1 42 (Int32.toNatClampNeg a3)) a2).bind fun q6 =>
  (ps_ck a3 256 ((ps_let (ps_ui σ 42 (Int32.toNatClampNeg a3) q6) fun σ8 =>
  (ps_let (a3 + (1 : Int32)) fun x9 =>
  some (.inl (x9, σ8)))))))))))
set_option maxHeartbeats 4000000 in
set_option maxRecDepth 100000 in
theorem tX4_covers_S53 {z : ps_X} (C : ps_C z cX4_covers 4 "PartSums") (Z : ps_Z z 4 93) (a1 : Int32) (a2 : Int32)  (s : Int32 × ps_S) (r : (Int32 × ps_S) ⊕ ((ps_S))) (h : fX4_covers_S53 a1 a2 s.1 s.2 = some r) (k : ps_k (pX4_covers_S53 z a1 a2) (qX4_covers_S53 z a1 a2) r) : pX4_covers_S53 z a1 a2 s := by
  obtain ⟨a3, σ⟩ := s
  unfold fX4_covers_S53 at h
  unfold pX4_covers_S53
  refine ps_iload_n C (pc := 53) dX4_covers_53 3 rfl ?_
  refine ps_aload_n C (pc := 54) dX4_covers_54 0 rfl ?_
  refine pg_0_0 C (pc := 55) tw_206 dX4_covers_55 ?_
  obtain ⟨q4, hq4, h⟩ := ps_bd h
  refine ps_callVI C Z (pc := 58) (As := []) (k0 := 1) (mX1_countSets  hq4) (Cn := "PartSums$Ground") rfl tw_457 tw_409 tw_410 tw_66 tw_411 hdX1_countSets rfl rfl ⟨by decide, by decide⟩ (by decide) ps_o1 rfl rfl (Nat.le_of_ble_eq_true rfl) dX4_covers_58 rfl ?_
  refine ps_icmp_ge C (pc := 61) 86 dX4_covers_61 (by decide) (fun hc => ?_) (fun hc => ?_)
  · have h := ps_ift hc h
    obtain rfl := Option.some.inj h
    exact ps_sub [0, 1] rfl k
  · have h := ps_iff hc h
    refine ps_aload_n C (pc := 64) dX4_covers_64 0 rfl ?_
    refine pg_0_6 C (pc := 65) tw_212 dX4_covers_65 ?_
    refine ps_iload_n C (pc := 68) dX4_covers_68 3 rfl ?_
    refine ps_aload_n C (pc := 69) dX4_covers_69 0 rfl ?_
    refine pg_0_6 C (pc := 70) tw_212 dX4_covers_70 ?_
    refine ps_iload_n C (pc := 73) dX4_covers_73 3 rfl ?_
    obtain ⟨hi5, h⟩ := ps_ck_s h
    refine ps_iald C (pc := 74) 42 rfl rfl hi5 dX4_covers_74 ?_
    refine ps_iload_n C (pc := 75) dX4_covers_75 2 rfl ?_
    obtain ⟨q6, hq6, h⟩ := ps_bd h
    refine ps_callSI C Z (pc := 76) (As := [.int (σ.1 42 (Int32.toNatClampNeg a3)), .int a2]) (mX4_raise  hq6) tw_570 tw_526 tw_65 tw_527 hdX4_raise rfl rfl ⟨by decide, by decide⟩ rfl (Nat.le_of_ble_eq_true rfl) dX4_covers_76 rfl ?_
    obtain ⟨hi7, h⟩ := ps_ck_s h
    refine ps_iastL C (pc := 79) 42 rfl rfl hi7 dX4_covers_79 h (fun σ8 h => ?_)
    refine ps_iincL C (pc := 80) (zz := 1) (lw := fun x9 => [(3, .int x9), (0, .ref (z_ad z 0)), (1, .int a1), (2, .int a2)]) dX4_covers_80 3 rfl (by decide) (by decide) (fun _ => rfl) h (fun x9 h => ?_)
    refine ps_goto C (pc := 83) 53 dX4_covers_83 (by decide) ?_
    obtain rfl := Option.some.inj h
    exact ps_sub [1, 2, 3, 0] rfl k
def fX4_covers (a1 : Int32) (a2 : Int32) (σ : ps_S) : Option (Int32 × ps_S) :=
  ((fX1_hasSet a1 σ).bind fun q1 =>
  (if q1 = 0 then some ((-1 : Int32), σ)
  else (if a2 < 0 then some ((-1 : Int32), σ)
  else (if a2 ≤ (8 : Int32) then ((fX4_measureAll (1 : Int32) 42 σ).bind fun q2 =>
  ((fX4_transform 42 (q2.1 1 0) (1 : Int32) (0 : Int32) q2).bind fun q3 =>
  ((ps_lp (fun s => fX4_covers_S53 a1 a2 s.1 s.2) 100000 ((0 : Int32), q3)).bind fun e10 =>
  ((fX4_transform 42 (e10.1 1 0) (1 : Int32) (1 : Int32) e10).bind fun q11 =>
  (ps_ck a1 256 (some ((q11.1 42 (Int32.toNatClampNeg a1)), q11)))))))
  else some ((-1 : Int32), σ)))))
set_option maxHeartbeats 4000000 in
set_option maxRecDepth 100000 in
theorem tX4_covers {z : ps_X} (C : ps_C z cX4_covers 4 "PartSums") (Z : ps_Z z 4 93) {a1 : Int32} {a2 : Int32} {σ : ps_S}  {r : Int32 × ps_S} (h : fX4_covers a1 a2 σ = some r) (k : ps_KI z 4 cX4_covers r.1 r.2) : ps_at z 4 0 [(0, .ref (z_ad z 0)), (1, .int a1), (2, .int a2)] [] σ := by
  unfold fX4_covers at h
  refine ps_aload_n C (pc := 0) dX4_covers_0 0 rfl ?_
  refine pg_0_0 C (pc := 1) tw_206 dX4_covers_1 ?_
  refine ps_iload_n C (pc := 4) dX4_covers_4 1 rfl ?_
  obtain ⟨q1, hq1, h⟩ := ps_bd h
  refine ps_callVI C Z (pc := 5) (As := [.int a1]) (k0 := 1) (mX1_hasSet  hq1) (Cn := "PartSums$Ground") rfl tw_404 tw_405 tw_406 tw_66 tw_407 hdX1_hasSet rfl rfl ⟨by decide, by decide⟩ (by decide) ps_o1 rfl rfl (Nat.le_of_ble_eq_true rfl) dX4_covers_5 rfl ?_
  refine ps_if_eq C (pc := 8) 21 dX4_covers_8 (by decide) (fun hc => ?_) (fun hc => ?_)
  · have h := ps_ift hc h
    refine ps_iconst C (pc := 21) (v := -1) dX4_covers_21 (by decide) ?_
    obtain rfl := Option.some.inj h
    exact k _ _ dX4_covers_22
  · have h := ps_iff hc h
    refine ps_iload_n C (pc := 11) dX4_covers_11 2 rfl ?_
    refine ps_if_lt C (pc := 12) 21 dX4_covers_12 (by decide) (fun hc => ?_) (fun hc => ?_)
    · have h := ps_ift hc h
      refine ps_iconst C (pc := 21) (v := -1) dX4_covers_21 (by decide) ?_
      obtain rfl := Option.some.inj h
      exact k _ _ dX4_covers_22
    · have h := ps_iff hc h
      refine ps_iload_n C (pc := 15) dX4_covers_15 2 rfl ?_
      refine ps_bipush C (pc := 16) (v := 8) dX4_covers_16 (by decide) ?_
      refine ps_icmp_le C (pc := 18) 23 dX4_covers_18 (by decide) (fun hc => ?_) (fun hc => ?_)
      · have h := ps_ift hc h
        refine ps_aload_n C (pc := 23) dX4_covers_23 0 rfl ?_
        refine pg_0_0 C (pc := 24) tw_206 dX4_covers_24 ?_
        refine ps_iconst C (pc := 27) (v := 1) dX4_covers_27 (by decide) ?_
        refine ps_aload_n C (pc := 28) dX4_covers_28 0 rfl ?_
        refine pg_0_6 C (pc := 29) tw_212 dX4_covers_29 ?_
        obtain ⟨q2, hq2, h⟩ := ps_bd h
        refine ps_callSV C Z (pc := 32) (As := [.ref (z_ad z 1), .int (1 : Int32), .ref (z_ad z 42)]) (mX4_measureAll (by rfl) hq2) tw_454 tw_455 tw_65 tw_456 hdX4_measureAll rfl rfl ⟨by decide, by decide⟩ rfl (Nat.le_of_ble_eq_true rfl) dX4_covers_32 rfl ?_
        refine ps_aload_n C (pc := 35) dX4_covers_35 0 rfl ?_
        refine pg_0_6 C (pc := 36) tw_212 dX4_covers_36 ?_
        refine ps_aload_n C (pc := 39) dX4_covers_39 0 rfl ?_
        refine pg_0_0 C (pc := 40) tw_206 dX4_covers_40 ?_
        refine pg_1_0 C (pc := 43) tw_100 dX4_covers_43 ?_
        refine ps_iconst C (pc := 46) (v := 1) dX4_covers_46 (by decide) ?_
        refine ps_iconst C (pc := 47) (v := 0) dX4_covers_47 (by decide) ?_
        obtain ⟨q3, hq3, h⟩ := ps_bd h
        refine ps_callSV C Z (pc := 48) (As := [.ref (z_ad z 42), .int (q2.1 1 0), .int (1 : Int32), .int (0 : Int32)]) (mX4_transform (by rfl) hq3) tw_486 tw_487 tw_65 tw_488 hdX4_transform rfl rfl ⟨by decide, by decide⟩ rfl (Nat.le_of_ble_eq_true rfl) dX4_covers_48 rfl ?_
        refine ps_iconst C (pc := 51) (v := 0) dX4_covers_51 (by decide) ?_
        refine ps_istore_n C (pc := 52) (lv' := [(3, .int (0 : Int32)), (0, .ref (z_ad z 0)), (1, .int a1), (2, .int a2)]) dX4_covers_52 (by decide) rfl ?_
        obtain ⟨e10, he10, h⟩ := ps_bd h
        refine ps_sub [1, 2, 3, 0] rfl ?_
        refine ps_loop (P := pX4_covers_S53 z a1 a2) (K := qX4_covers_S53 z a1 a2) (fun s r h k => tX4_covers_S53 C Z a1 a2  s r h k) _ _ _ he10 ?_
        unfold qX4_covers_S53
        refine ps_aload_n C (pc := 86) dX4_covers_86 0 rfl ?_
        refine pg_0_6 C (pc := 87) tw_212 dX4_covers_87 ?_
        refine ps_aload_n C (pc := 90) dX4_covers_90 0 rfl ?_
        refine pg_0_0 C (pc := 91) tw_206 dX4_covers_91 ?_
        refine pg_1_0 C (pc := 94) tw_100 dX4_covers_94 ?_
        refine ps_iconst C (pc := 97) (v := 1) dX4_covers_97 (by decide) ?_
        refine ps_iconst C (pc := 98) (v := 1) dX4_covers_98 (by decide) ?_
        obtain ⟨q11, hq11, h⟩ := ps_bd h
        refine ps_callSV C Z (pc := 99) (As := [.ref (z_ad z 42), .int (e10.1 1 0), .int (1 : Int32), .int (1 : Int32)]) (mX4_transform (by rfl) hq11) tw_486 tw_487 tw_65 tw_488 hdX4_transform rfl rfl ⟨by decide, by decide⟩ rfl (Nat.le_of_ble_eq_true rfl) dX4_covers_99 rfl ?_
        refine ps_aload_n C (pc := 102) dX4_covers_102 0 rfl ?_
        refine pg_0_6 C (pc := 103) tw_212 dX4_covers_103 ?_
        refine ps_iload_n C (pc := 106) dX4_covers_106 1 rfl ?_
        obtain ⟨hi12, h⟩ := ps_ck_s h
        refine ps_iald C (pc := 107) 42 rfl rfl hi12 dX4_covers_107 ?_
        obtain rfl := Option.some.inj h
        exact k _ _ dX4_covers_108
      · have h := ps_iff hc h
        refine ps_iconst C (pc := 21) (v := -1) dX4_covers_21 (by decide) ?_
        obtain rfl := Option.some.inj h
        exact k _ _ dX4_covers_22
def rmX4_covers : Room := { frames := 4, cells := 0, slots := 0, locals := 93 }
theorem mX4_covers {l : Launch} {E : ps_E} {σ : ps_S} {a1 : Int32} {a2 : Int32} {r : Int32 × ps_S}  (h : fX4_covers a1 a2 σ = some r) : ps_MI l yX4_covers (ps_wm yX4_covers cX4_covers 4 (some .int)) rmX4_covers [.ref (e_ad E 0), .int a1, .int a2] E σ r.1 r.2 :=
  ps_metI yX4_covers rmX4_covers 4 (own := "PartSums") r.1 (by decide +kernel) rfl (Nat.le_of_ble_eq_true rfl) rfl (fun z e1 e2 e3 e4 e5 C k => by
    subst e5
    exact tX4_covers C (ps_Zof e1 e3 e4)  h k)
theorem hdX4_covers : yX4_covers.cls ≠ "java/lang/invoke/MethodHandle" ∧ yX4_covers.cls ≠ "java/lang/invoke/VarHandle" ∧ (parseMethodDescriptor yX4_covers.desc).map (fun d => d.parameters.length) = some 2 := by decide +kernel
def fX4_partings (a1 : Int32) (a2 : Int32) (σ : ps_S) : Option (Int32 × ps_S) :=
  ((fX1_hasSet a1 σ).bind fun q1 =>
  (if q1 = 0 then some ((-1 : Int32), σ)
  else (if a2 < 0 then some ((-1 : Int32), σ)
  else (if a2 ≤ (8 : Int32) then ((fX4_measureAll (1 : Int32) 42 σ).bind fun q2 =>
  ((fX3_slopesOfCount a2 q2).bind fun q3 =>
  ((fX3_compose 42 (q3.1 1 0) (1 : Int32) q3).bind fun q4 =>
  (ps_ck a1 256 (some ((Int64.toInt32 (q4.2 40 (Int32.toNatClampNeg a1))), q4))))))
  else some ((-1 : Int32), σ)))))
set_option maxHeartbeats 4000000 in
set_option maxRecDepth 100000 in
theorem tX4_partings {z : ps_X} (C : ps_C z cX4_partings 3 "PartSums") (Z : ps_Z z 4 93) {a1 : Int32} {a2 : Int32} {σ : ps_S}  {r : Int32 × ps_S} (h : fX4_partings a1 a2 σ = some r) (k : ps_KI z 3 cX4_partings r.1 r.2) : ps_at z 3 0 [(0, .ref (z_ad z 0)), (1, .int a1), (2, .int a2)] [] σ := by
  unfold fX4_partings at h
  refine ps_aload_n C (pc := 0) dX4_partings_0 0 rfl ?_
  refine pg_0_0 C (pc := 1) tw_206 dX4_partings_1 ?_
  refine ps_iload_n C (pc := 4) dX4_partings_4 1 rfl ?_
  obtain ⟨q1, hq1, h⟩ := ps_bd h
  refine ps_callVI C Z (pc := 5) (As := [.int a1]) (k0 := 1) (mX1_hasSet  hq1) (Cn := "PartSums$Ground") rfl tw_404 tw_405 tw_406 tw_66 tw_407 hdX1_hasSet rfl rfl ⟨by decide, by decide⟩ (by decide) ps_o1 rfl rfl (Nat.le_of_ble_eq_true rfl) dX4_partings_5 rfl ?_
  refine ps_if_eq C (pc := 8) 21 dX4_partings_8 (by decide) (fun hc => ?_) (fun hc => ?_)
  · have h := ps_ift hc h
    refine ps_iconst C (pc := 21) (v := -1) dX4_partings_21 (by decide) ?_
    obtain rfl := Option.some.inj h
    exact k _ _ dX4_partings_22
  · have h := ps_iff hc h
    refine ps_iload_n C (pc := 11) dX4_partings_11 2 rfl ?_
    refine ps_if_lt C (pc := 12) 21 dX4_partings_12 (by decide) (fun hc => ?_) (fun hc => ?_)
    · have h := ps_ift hc h
      refine ps_iconst C (pc := 21) (v := -1) dX4_partings_21 (by decide) ?_
      obtain rfl := Option.some.inj h
      exact k _ _ dX4_partings_22
    · have h := ps_iff hc h
      refine ps_iload_n C (pc := 15) dX4_partings_15 2 rfl ?_
      refine ps_bipush C (pc := 16) (v := 8) dX4_partings_16 (by decide) ?_
      refine ps_icmp_le C (pc := 18) 23 dX4_partings_18 (by decide) (fun hc => ?_) (fun hc => ?_)
      · have h := ps_ift hc h
        refine ps_aload_n C (pc := 23) dX4_partings_23 0 rfl ?_
        refine pg_0_0 C (pc := 24) tw_206 dX4_partings_24 ?_
        refine ps_iconst C (pc := 27) (v := 1) dX4_partings_27 (by decide) ?_
        refine ps_aload_n C (pc := 28) dX4_partings_28 0 rfl ?_
        refine pg_0_6 C (pc := 29) tw_212 dX4_partings_29 ?_
        obtain ⟨q2, hq2, h⟩ := ps_bd h
        refine ps_callSV C Z (pc := 32) (As := [.ref (z_ad z 1), .int (1 : Int32), .ref (z_ad z 42)]) (mX4_measureAll (by rfl) hq2) tw_454 tw_455 tw_65 tw_456 hdX4_measureAll rfl rfl ⟨by decide, by decide⟩ rfl (Nat.le_of_ble_eq_true rfl) dX4_partings_32 rfl ?_
        refine ps_aload_n C (pc := 35) dX4_partings_35 0 rfl ?_
        refine pg_0_5 C (pc := 36) tw_211 dX4_partings_36 ?_
        refine ps_iload_n C (pc := 39) dX4_partings_39 2 rfl ?_
        obtain ⟨q3, hq3, h⟩ := ps_bd h
        refine ps_callVV C Z (pc := 40) (As := [.int a2]) (k0 := 39) (mX3_slopesOfCount  hq3) (Cn := "PartSums$Series") rfl tw_575 tw_576 tw_577 tw_69 tw_578 hdX3_slopesOfCount rfl rfl ⟨by decide, by decide⟩ (by decide) ps_o39 rfl rfl (Nat.le_of_ble_eq_true rfl) dX4_partings_40 rfl ?_
        refine ps_aload_n C (pc := 43) dX4_partings_43 0 rfl ?_
        refine pg_0_5 C (pc := 44) tw_211 dX4_partings_44 ?_
        refine ps_aload_n C (pc := 47) dX4_partings_47 0 rfl ?_
        refine pg_0_6 C (pc := 48) tw_212 dX4_partings_48 ?_
        refine ps_aload_n C (pc := 51) dX4_partings_51 0 rfl ?_
        refine pg_0_0 C (pc := 52) tw_206 dX4_partings_52 ?_
        refine pg_1_0 C (pc := 55) tw_100 dX4_partings_55 ?_
        refine ps_iconst C (pc := 58) (v := 1) dX4_partings_58 (by decide) ?_
        obtain ⟨q4, hq4, h⟩ := ps_bd h
        refine ps_callVV C Z (pc := 59) (As := [.ref (z_ad z 42), .int (q3.1 1 0), .int (1 : Int32)]) (k0 := 39) (mX3_compose (by rfl) hq4) (Cn := "PartSums$Series") rfl tw_532 tw_533 tw_534 tw_69 tw_535 hdX3_compose rfl rfl ⟨by decide, by decide⟩ (by decide) ps_o39 rfl rfl (Nat.le_of_ble_eq_true rfl) dX4_partings_59 rfl ?_
        refine ps_aload_n C (pc := 62) dX4_partings_62 0 rfl ?_
        refine pg_0_5 C (pc := 63) tw_211 dX4_partings_63 ?_
        refine pg_39_0 C (pc := 66) tw_199 dX4_partings_66 ?_
        refine ps_iload_n C (pc := 69) dX4_partings_69 1 rfl ?_
        obtain ⟨hi5, h⟩ := ps_ck_s h
        refine ps_lald C (pc := 70) 40 rfl rfl hi5 dX4_partings_70 ?_
        refine ps_l2i C (pc := 71) dX4_partings_71 ?_
        obtain rfl := Option.some.inj h
        exact k _ _ dX4_partings_72
      · have h := ps_iff hc h
        refine ps_iconst C (pc := 21) (v := -1) dX4_partings_21 (by decide) ?_
        obtain rfl := Option.some.inj h
        exact k _ _ dX4_partings_22
def rmX4_partings : Room := { frames := 4, cells := 0, slots := 0, locals := 93 }
theorem mX4_partings {l : Launch} {E : ps_E} {σ : ps_S} {a1 : Int32} {a2 : Int32} {r : Int32 × ps_S}  (h : fX4_partings a1 a2 σ = some r) : ps_MI l yX4_partings (ps_wm yX4_partings cX4_partings 3 (some .int)) rmX4_partings [.ref (e_ad E 0), .int a1, .int a2] E σ r.1 r.2 :=
  ps_metI yX4_partings rmX4_partings 3 (own := "PartSums") r.1 (by decide +kernel) rfl (Nat.le_of_ble_eq_true rfl) rfl (fun z e1 e2 e3 e4 e5 C k => by
    subst e5
    exact tX4_partings C (ps_Zof e1 e3 e4)  h k)
theorem hdX4_partings : yX4_partings.cls ≠ "java/lang/invoke/MethodHandle" ∧ yX4_partings.cls ≠ "java/lang/invoke/VarHandle" ∧ (parseMethodDescriptor yX4_partings.desc).map (fun d => d.parameters.length) = some 2 := by decide +kernel
def fX4_cheapest (a1 : Int32) (σ : ps_S) : Option (Int32 × ps_S) :=
  ((fX1_hasSet a1 σ).bind fun q1 =>
  (if q1 = 0 then some ((-1 : Int32), σ)
  else ((fX4_priceParts a1 σ).bind fun q2 =>
  (ps_ck a1 256 ((if (1000000 : Int32) ≤ (q2.1 42 (Int32.toNatClampNeg a1)) then some ((-1 : Int32), q2)
  else (ps_ck a1 256 (some ((q2.1 42 (Int32.toNatClampNeg a1)), q2)))))))))
set_option maxHeartbeats 4000000 in
set_option maxRecDepth 100000 in
theorem tX4_cheapest {z : ps_X} (C : ps_C z cX4_cheapest 2 "PartSums") (Z : ps_Z z 3 146) {a1 : Int32} {σ : ps_S}  {r : Int32 × ps_S} (h : fX4_cheapest a1 σ = some r) (k : ps_KI z 2 cX4_cheapest r.1 r.2) : ps_at z 2 0 [(0, .ref (z_ad z 0)), (1, .int a1)] [] σ := by
  unfold fX4_cheapest at h
  refine ps_aload_n C (pc := 0) dX4_cheapest_0 0 rfl ?_
  refine pg_0_0 C (pc := 1) tw_206 dX4_cheapest_1 ?_
  refine ps_iload_n C (pc := 4) dX4_cheapest_4 1 rfl ?_
  obtain ⟨q1, hq1, h⟩ := ps_bd h
  refine ps_callVI C Z (pc := 5) (As := [.int a1]) (k0 := 1) (mX1_hasSet  hq1) (Cn := "PartSums$Ground") rfl tw_404 tw_405 tw_406 tw_66 tw_407 hdX1_hasSet rfl rfl ⟨by decide, by decide⟩ (by decide) ps_o1 rfl rfl (Nat.le_of_ble_eq_true rfl) dX4_cheapest_5 rfl ?_
  refine ps_if_ne C (pc := 8) 13 dX4_cheapest_8 (by decide) (fun hc => ?_) (fun hc => ?_)
  · have h := ps_iff hc h
    refine ps_aload_n C (pc := 13) dX4_cheapest_13 0 rfl ?_
    refine ps_iload_n C (pc := 14) dX4_cheapest_14 1 rfl ?_
    obtain ⟨q2, hq2, h⟩ := ps_bd h
    refine ps_callVV C Z (pc := 15) (As := [.int a1]) (k0 := 0) (mX4_priceParts  hq2) (Cn := "PartSums") rfl tw_583 tw_585 tw_17 tw_65 tw_586 hdX4_priceParts rfl rfl ⟨by decide, by decide⟩ (by decide) ps_o0 rfl rfl (Nat.le_of_ble_eq_true rfl) dX4_cheapest_15 rfl ?_
    refine ps_aload_n C (pc := 18) dX4_cheapest_18 0 rfl ?_
    refine pg_0_6 C (pc := 19) tw_212 dX4_cheapest_19 ?_
    refine ps_iload_n C (pc := 22) dX4_cheapest_22 1 rfl ?_
    obtain ⟨hi3, h⟩ := ps_ck_s h
    refine ps_iald C (pc := 23) 42 rfl rfl hi3 dX4_cheapest_23 ?_
    refine ps_ldc C (pc := 24) tw_595 dX4_cheapest_24 ?_
    refine ps_icmp_ge C (pc := 26) 38 dX4_cheapest_26 (by decide) (fun hc => ?_) (fun hc => ?_)
    · have h := ps_ift hc h
      refine ps_iconst C (pc := 38) (v := -1) dX4_cheapest_38 (by decide) ?_
      obtain rfl := Option.some.inj h
      exact k _ _ dX4_cheapest_39
    · have h := ps_iff hc h
      refine ps_aload_n C (pc := 29) dX4_cheapest_29 0 rfl ?_
      refine pg_0_6 C (pc := 30) tw_212 dX4_cheapest_30 ?_
      refine ps_iload_n C (pc := 33) dX4_cheapest_33 1 rfl ?_
      obtain ⟨hi4, h⟩ := ps_ck_s h
      refine ps_iald C (pc := 34) 42 rfl rfl hi4 dX4_cheapest_34 ?_
      refine ps_goto C (pc := 35) 39 dX4_cheapest_35 (by decide) ?_
      obtain rfl := Option.some.inj h
      exact k _ _ dX4_cheapest_39
  · have h := ps_ift hc h
    refine ps_iconst C (pc := 11) (v := -1) dX4_cheapest_11 (by decide) ?_
    obtain rfl := Option.some.inj h
    exact k _ _ dX4_cheapest_12
def rmX4_cheapest : Room := { frames := 3, cells := 0, slots := 0, locals := 146 }
theorem mX4_cheapest {l : Launch} {E : ps_E} {σ : ps_S} {a1 : Int32} {r : Int32 × ps_S}  (h : fX4_cheapest a1 σ = some r) : ps_MI l yX4_cheapest (ps_wm yX4_cheapest cX4_cheapest 2 (some .int)) rmX4_cheapest [.ref (e_ad E 0), .int a1] E σ r.1 r.2 :=
  ps_metI yX4_cheapest rmX4_cheapest 2 (own := "PartSums") r.1 (by decide +kernel) rfl (Nat.le_of_ble_eq_true rfl) rfl (fun z e1 e2 e3 e4 e5 C k => by
    subst e5
    exact tX4_cheapest C (ps_Zof e1 e3 e4)  h k)
theorem hdX4_cheapest : yX4_cheapest.cls ≠ "java/lang/invoke/MethodHandle" ∧ yX4_cheapest.cls ≠ "java/lang/invoke/VarHandle" ∧ (parseMethodDescriptor yX4_cheapest.desc).map (fun d => d.parameters.length) = some 1 := by decide +kernel
def fX4_colours (a1 : Int32) (σ : ps_S) : Option (Int32 × ps_S) :=
  ((fX1_hasSet a1 σ).bind fun q1 =>
  (if q1 = 0 then some ((-1 : Int32), σ)
  else ((fX4_paintFewest a1 σ).bind fun q2 =>
  some (q2.1, q2.2))))
set_option maxHeartbeats 4000000 in
set_option maxRecDepth 100000 in
theorem tX4_colours {z : ps_X} (C : ps_C z cX4_colours 2 "PartSums") (Z : ps_Z z 14 380) {a1 : Int32} {σ : ps_S}  {r : Int32 × ps_S} (h : fX4_colours a1 σ = some r) (k : ps_KI z 2 cX4_colours r.1 r.2) : ps_at z 2 0 [(0, .ref (z_ad z 0)), (1, .int a1)] [] σ := by
  unfold fX4_colours at h
  refine ps_aload_n C (pc := 0) dX4_colours_0 0 rfl ?_
  refine pg_0_0 C (pc := 1) tw_206 dX4_colours_1 ?_
  refine ps_iload_n C (pc := 4) dX4_colours_4 1 rfl ?_
  obtain ⟨q1, hq1, h⟩ := ps_bd h
  refine ps_callVI C Z (pc := 5) (As := [.int a1]) (k0 := 1) (mX1_hasSet  hq1) (Cn := "PartSums$Ground") rfl tw_404 tw_405 tw_406 tw_66 tw_407 hdX1_hasSet rfl rfl ⟨by decide, by decide⟩ (by decide) ps_o1 rfl rfl (Nat.le_of_ble_eq_true rfl) dX4_colours_5 rfl ?_
  refine ps_if_eq C (pc := 8) 19 dX4_colours_8 (by decide) (fun hc => ?_) (fun hc => ?_)
  · have h := ps_ift hc h
    refine ps_iconst C (pc := 19) (v := -1) dX4_colours_19 (by decide) ?_
    obtain rfl := Option.some.inj h
    exact k _ _ dX4_colours_20
  · have h := ps_iff hc h
    refine ps_aload_n C (pc := 11) dX4_colours_11 0 rfl ?_
    refine ps_iload_n C (pc := 12) dX4_colours_12 1 rfl ?_
    obtain ⟨q2, hq2, h⟩ := ps_bd h
    refine ps_callVI C Z (pc := 13) (As := [.int a1]) (k0 := 0) (mX4_paintFewest  hq2) (Cn := "PartSums") rfl tw_601 tw_603 tw_20 tw_65 tw_604 hdX4_paintFewest rfl rfl ⟨by decide, by decide⟩ (by decide) ps_o0 rfl rfl (Nat.le_of_ble_eq_true rfl) dX4_colours_13 rfl ?_
    refine ps_goto C (pc := 16) 20 dX4_colours_16 (by decide) ?_
    obtain rfl := Option.some.inj h
    exact k _ _ dX4_colours_20
def rmX4_colours : Room := { frames := 14, cells := 0, slots := 0, locals := 380 }
theorem mX4_colours {l : Launch} {E : ps_E} {σ : ps_S} {a1 : Int32} {r : Int32 × ps_S}  (h : fX4_colours a1 σ = some r) : ps_MI l yX4_colours (ps_wm yX4_colours cX4_colours 2 (some .int)) rmX4_colours [.ref (e_ad E 0), .int a1] E σ r.1 r.2 :=
  ps_metI yX4_colours rmX4_colours 2 (own := "PartSums") r.1 (by decide +kernel) rfl (Nat.le_of_ble_eq_true rfl) rfl (fun z e1 e2 e3 e4 e5 C k => by
    subst e5
    exact tX4_colours C (ps_Zof e1 e3 e4)  h k)
theorem hdX4_colours : yX4_colours.cls ≠ "java/lang/invoke/MethodHandle" ∧ yX4_colours.cls ≠ "java/lang/invoke/VarHandle" ∧ (parseMethodDescriptor yX4_colours.desc).map (fun d => d.parameters.length) = some 1 := by decide +kernel
def pX4_colour_S41 (z : ps_X) (a2 : Int32) (a3 : Int32) (σ : ps_S) (s : Int32) : Prop := ps_at z 5 41 [(0, .ref (z_ad z 0)), (2, .int a2), (3, .int a3), (4, .int s)] [] σ
def qX4_colour_S41 (z : ps_X) (a2 : Int32) (a3 : Int32) (σ : ps_S) (x : (Int32) ⊕ (Unit)) : Prop := match x with | .inl y => ps_at z 5 69 [(4, .int y)] [] σ | .inr y => ps_at z 5 78 [] [] σ
def fX4_colour_S41 (a2 : Int32) (a3 : Int32) (σ : ps_S) (a4 : Int32) : Option ((Int32) ⊕ ((Int32) ⊕ (Unit))) :=
  (if a3 ≤ a4 then some (.inr (.inr ()))
  else (if (8 : Int32) ≤ a4 then some (.inr (.inr ()))
  else (ps_ck a4 8 ((if (((σ.1 44 (Int32.toNatClampNeg a4)) >>> (a2 &&& 31)) &&& (1 : Int32)) = (1 : Int32) then some (.inr (.inl a4))
  else (ps_let (a4 + (1 : Int32)) fun x6 =>
  some (.inl x6)))))))
set_option maxHeartbeats 4000000 in
set_option maxRecDepth 100000 in
theorem tX4_colour_S41 {z : ps_X} (C : ps_C z cX4_colour 5 "PartSums") (Z : ps_Z z 14 380) (a2 : Int32) (a3 : Int32) (σ : ps_S)  (s : Int32) (r : (Int32) ⊕ ((Int32) ⊕ (Unit))) (h : fX4_colour_S41 a2 a3 σ s = some r) (k : ps_k (pX4_colour_S41 z a2 a3 σ) (qX4_colour_S41 z a2 a3 σ) r) : pX4_colour_S41 z a2 a3 σ s := by
  generalize s = a4 at h ⊢
  unfold fX4_colour_S41 at h
  unfold pX4_colour_S41
  refine ps_iload C (pc := 41) dX4_colour_41 3 rfl ?_
  refine ps_iload_n C (pc := 43) dX4_colour_43 2 rfl ?_
  refine ps_icmp_ge C (pc := 44) 78 dX4_colour_44 (by decide) (fun hc => ?_) (fun hc => ?_)
  · have h := ps_ift hc h
    obtain rfl := Option.some.inj h
    exact ps_sub [] rfl k
  · have h := ps_iff hc h
    refine ps_iload C (pc := 47) dX4_colour_47 3 rfl ?_
    refine ps_bipush C (pc := 49) (v := 8) dX4_colour_49 (by decide) ?_
    refine ps_icmp_ge C (pc := 51) 78 dX4_colour_51 (by decide) (fun hc => ?_) (fun hc => ?_)
    · have h := ps_ift hc h
      obtain rfl := Option.some.inj h
      exact ps_sub [] rfl k
    · have h := ps_iff hc h
      refine ps_aload_n C (pc := 54) dX4_colour_54 0 rfl ?_
      refine pg_0_8 C (pc := 55) tw_214 dX4_colour_55 ?_
      refine ps_iload C (pc := 58) dX4_colour_58 3 rfl ?_
      obtain ⟨hi5, h⟩ := ps_ck_s h
      refine ps_iald C (pc := 60) 44 rfl rfl hi5 dX4_colour_60 ?_
      refine ps_iload_n C (pc := 61) dX4_colour_61 1 rfl ?_
      refine ps_ishr C (pc := 62) dX4_colour_62 ?_
      refine ps_iconst C (pc := 63) (v := 1) dX4_colour_63 (by decide) ?_
      refine ps_iand C (pc := 64) dX4_colour_64 ?_
      refine ps_iconst C (pc := 65) (v := 1) dX4_colour_65 (by decide) ?_
      refine ps_icmp_ne C (pc := 66) 72 dX4_colour_66 (by decide) (fun hc => ?_) (fun hc => ?_)
      · have h := ps_iff hc h
        refine ps_iincL C (pc := 72) (zz := 1) (lw := fun x6 => [(4, .int x6), (0, .ref (z_ad z 0)), (2, .int a2), (3, .int a3)]) dX4_colour_72 3 rfl (by decide) (by decide) (fun _ => rfl) h (fun x6 h => ?_)
        refine ps_goto C (pc := 75) 41 dX4_colour_75 (by decide) ?_
        obtain rfl := Option.some.inj h
        exact ps_sub [1, 2, 3, 0] rfl k
      · have h := ps_ift hc h
        obtain rfl := Option.some.inj h
        exact ps_sub [3] rfl k
def fX4_colour (a1 : Int32) (a2 : Int32) (σ : ps_S) : Option (Int32 × ps_S) :=
  ((fX1_hasSet a1 σ).bind fun q1 =>
  (if q1 = 0 then some ((-1 : Int32), σ)
  else ((fX1_hasThing a2 σ).bind fun q2 =>
  (if q2 = 0 then some ((-1 : Int32), σ)
  else (if ((a1 >>> (a2 &&& 31)) &&& (1 : Int32)) = 0 then some ((-1 : Int32), σ)
  else ((fX4_paintFewest a1 σ).bind fun q3 =>
  (ps_let q3.1 fun x4 =>
  ((ps_lp (fun s => fX4_colour_S41 a2 x4 q3.2 s) 100000 (0 : Int32)).bind fun e7 =>
  match e7 with | .inl y8 => some (y8, q3.2) | .inr y9 => some ((-1 : Int32), q3.2)))))))))
set_option maxHeartbeats 4000000 in
set_option maxRecDepth 100000 in
theorem tX4_colour {z : ps_X} (C : ps_C z cX4_colour 5 "PartSums") (Z : ps_Z z 14 380) {a1 : Int32} {a2 : Int32} {σ : ps_S}  {r : Int32 × ps_S} (h : fX4_colour a1 a2 σ = some r) (k : ps_KI z 5 cX4_colour r.1 r.2) : ps_at z 5 0 [(0, .ref (z_ad z 0)), (1, .int a1), (2, .int a2)] [] σ := by
  unfold fX4_colour at h
  refine ps_aload_n C (pc := 0) dX4_colour_0 0 rfl ?_
  refine pg_0_0 C (pc := 1) tw_206 dX4_colour_1 ?_
  refine ps_iload_n C (pc := 4) dX4_colour_4 1 rfl ?_
  obtain ⟨q1, hq1, h⟩ := ps_bd h
  refine ps_callVI C Z (pc := 5) (As := [.int a1]) (k0 := 1) (mX1_hasSet  hq1) (Cn := "PartSums$Ground") rfl tw_404 tw_405 tw_406 tw_66 tw_407 hdX1_hasSet rfl rfl ⟨by decide, by decide⟩ (by decide) ps_o1 rfl rfl (Nat.le_of_ble_eq_true rfl) dX4_colour_5 rfl ?_
  refine ps_if_eq C (pc := 8) 30 dX4_colour_8 (by decide) (fun hc => ?_) (fun hc => ?_)
  · have h := ps_ift hc h
    refine ps_iconst C (pc := 30) (v := -1) dX4_colour_30 (by decide) ?_
    obtain rfl := Option.some.inj h
    exact k _ _ dX4_colour_31
  · have h := ps_iff hc h
    refine ps_aload_n C (pc := 11) dX4_colour_11 0 rfl ?_
    refine pg_0_0 C (pc := 12) tw_206 dX4_colour_12 ?_
    refine ps_iload_n C (pc := 15) dX4_colour_15 2 rfl ?_
    obtain ⟨q2, hq2, h⟩ := ps_bd h
    refine ps_callVI C Z (pc := 16) (As := [.int a2]) (k0 := 1) (mX1_hasThing  hq2) (Cn := "PartSums$Ground") rfl tw_416 tw_417 tw_418 tw_66 tw_419 hdX1_hasThing rfl rfl ⟨by decide, by decide⟩ (by decide) ps_o1 rfl rfl (Nat.le_of_ble_eq_true rfl) dX4_colour_16 rfl ?_
    refine ps_if_eq C (pc := 19) 30 dX4_colour_19 (by decide) (fun hc => ?_) (fun hc => ?_)
    · have h := ps_ift hc h
      refine ps_iconst C (pc := 30) (v := -1) dX4_colour_30 (by decide) ?_
      obtain rfl := Option.some.inj h
      exact k _ _ dX4_colour_31
    · have h := ps_iff hc h
      refine ps_iload_n C (pc := 22) dX4_colour_22 1 rfl ?_
      refine ps_iload_n C (pc := 23) dX4_colour_23 2 rfl ?_
      refine ps_ishr C (pc := 24) dX4_colour_24 ?_
      refine ps_iconst C (pc := 25) (v := 1) dX4_colour_25 (by decide) ?_
      refine ps_iand C (pc := 26) dX4_colour_26 ?_
      refine ps_if_ne C (pc := 27) 32 dX4_colour_27 (by decide) (fun hc => ?_) (fun hc => ?_)
      · have h := ps_iff hc h
        refine ps_aload_n C (pc := 32) dX4_colour_32 0 rfl ?_
        refine ps_iload_n C (pc := 33) dX4_colour_33 1 rfl ?_
        obtain ⟨q3, hq3, h⟩ := ps_bd h
        refine ps_callVI C Z (pc := 34) (As := [.int a1]) (k0 := 0) (mX4_paintFewest  hq3) (Cn := "PartSums") rfl tw_601 tw_603 tw_20 tw_65 tw_604 hdX4_paintFewest rfl rfl ⟨by decide, by decide⟩ (by decide) ps_o0 rfl rfl (Nat.le_of_ble_eq_true rfl) dX4_colour_34 rfl ?_
        refine ps_istoreL_n C (pc := 37) (lw := fun x4 => [(3, .int x4), (0, .ref (z_ad z 0)), (1, .int a1), (2, .int a2)]) dX4_colour_37 (by decide) (fun _ => rfl) h (fun x4 h => ?_)
        refine ps_iconst C (pc := 38) (v := 0) dX4_colour_38 (by decide) ?_
        refine ps_istore C (pc := 39) (lv' := [(4, .int (0 : Int32)), (3, .int x4), (0, .ref (z_ad z 0)), (1, .int a1), (2, .int a2)]) dX4_colour_39 (by decide) rfl ?_
        obtain ⟨e7, he7, h⟩ := ps_bd h
        refine ps_sub [2, 4, 1, 0] rfl ?_
        refine ps_loop (P := pX4_colour_S41 z a2 x4 q3.2) (K := qX4_colour_S41 z a2 x4 q3.2) (fun s r h k => tX4_colour_S41 C Z a2 x4 q3.2  s r h k) _ _ _ he7 ?_
        unfold qX4_colour_S41
        rcases e7 with y8 | w_y8
        · refine ps_iload C (pc := 69) dX4_colour_69 0 rfl ?_
          obtain rfl := Option.some.inj h
          exact k _ _ dX4_colour_71
        · generalize w_y8 = y9 at h ⊢
          refine ps_iconst C (pc := 78) (v := -1) dX4_colour_78 (by decide) ?_
          obtain rfl := Option.some.inj h
          exact k _ _ dX4_colour_79
      · have h := ps_ift hc h
        refine ps_iconst C (pc := 30) (v := -1) dX4_colour_30 (by decide) ?_
        obtain rfl := Option.some.inj h
        exact k _ _ dX4_colour_31
def rmX4_colour : Room := { frames := 14, cells := 0, slots := 0, locals := 380 }
theorem mX4_colour {l : Launch} {E : ps_E} {σ : ps_S} {a1 : Int32} {a2 : Int32} {r : Int32 × ps_S}  (h : fX4_colour a1 a2 σ = some r) : ps_MI l yX4_colour (ps_wm yX4_colour cX4_colour 5 (some .int)) rmX4_colour [.ref (e_ad E 0), .int a1, .int a2] E σ r.1 r.2 :=
  ps_metI yX4_colour rmX4_colour 5 (own := "PartSums") r.1 (by decide +kernel) rfl (Nat.le_of_ble_eq_true rfl) rfl (fun z e1 e2 e3 e4 e5 C k => by
    subst e5
    exact tX4_colour C (ps_Zof e1 e3 e4)  h k)
theorem hdX4_colour : yX4_colour.cls ≠ "java/lang/invoke/MethodHandle" ∧ yX4_colour.cls ≠ "java/lang/invoke/VarHandle" ∧ (parseMethodDescriptor yX4_colour.desc).map (fun d => d.parameters.length) = some 2 := by decide +kernel
def fX4_colourings (a1 : Int32) (a2 : Int32) (σ : ps_S) : Option (Int64 × ps_S) :=
  ((fX1_hasSet a1 σ).bind fun q1 =>
  (if q1 = 0 then some ((-1 : Int64), σ)
  else (if a2 < 0 then some ((-1 : Int64), σ)
  else (if a2 ≤ (99 : Int32) then ((fX4_measureAll (2 : Int32) 42 σ).bind fun q2 =>
  ((fX3_slopesOfChoices a2 q2).bind fun q3 =>
  ((fX3_compose 42 (q3.1 1 0) (1 : Int32) q3).bind fun q4 =>
  (ps_ck a1 256 (some ((q4.2 40 (Int32.toNatClampNeg a1)), q4))))))
  else some ((-1 : Int64), σ)))))
set_option maxHeartbeats 4000000 in
set_option maxRecDepth 100000 in
theorem tX4_colourings {z : ps_X} (C : ps_C z cX4_colourings 3 "PartSums") (Z : ps_Z z 4 93) {a1 : Int32} {a2 : Int32} {σ : ps_S}  {r : Int64 × ps_S} (h : fX4_colourings a1 a2 σ = some r) (k : ps_KL z 3 cX4_colourings r.1 r.2) : ps_at z 3 0 [(0, .ref (z_ad z 0)), (1, .int a1), (2, .int a2)] [] σ := by
  unfold fX4_colourings at h
  refine ps_aload_n C (pc := 0) dX4_colourings_0 0 rfl ?_
  refine pg_0_0 C (pc := 1) tw_206 dX4_colourings_1 ?_
  refine ps_iload_n C (pc := 4) dX4_colourings_4 1 rfl ?_
  obtain ⟨q1, hq1, h⟩ := ps_bd h
  refine ps_callVI C Z (pc := 5) (As := [.int a1]) (k0 := 1) (mX1_hasSet  hq1) (Cn := "PartSums$Ground") rfl tw_404 tw_405 tw_406 tw_66 tw_407 hdX1_hasSet rfl rfl ⟨by decide, by decide⟩ (by decide) ps_o1 rfl rfl (Nat.le_of_ble_eq_true rfl) dX4_colourings_5 rfl ?_
  refine ps_if_eq C (pc := 8) 21 dX4_colourings_8 (by decide) (fun hc => ?_) (fun hc => ?_)
  · have h := ps_ift hc h
    refine ps_ldc2 C (pc := 21) tw_616 dX4_colourings_21 ?_
    obtain rfl := Option.some.inj h
    exact k _ _ dX4_colourings_24
  · have h := ps_iff hc h
    refine ps_iload_n C (pc := 11) dX4_colourings_11 2 rfl ?_
    refine ps_if_lt C (pc := 12) 21 dX4_colourings_12 (by decide) (fun hc => ?_) (fun hc => ?_)
    · have h := ps_ift hc h
      refine ps_ldc2 C (pc := 21) tw_616 dX4_colourings_21 ?_
      obtain rfl := Option.some.inj h
      exact k _ _ dX4_colourings_24
    · have h := ps_iff hc h
      refine ps_iload_n C (pc := 15) dX4_colourings_15 2 rfl ?_
      refine ps_bipush C (pc := 16) (v := 99) dX4_colourings_16 (by decide) ?_
      refine ps_icmp_le C (pc := 18) 25 dX4_colourings_18 (by decide) (fun hc => ?_) (fun hc => ?_)
      · have h := ps_ift hc h
        refine ps_aload_n C (pc := 25) dX4_colourings_25 0 rfl ?_
        refine pg_0_0 C (pc := 26) tw_206 dX4_colourings_26 ?_
        refine ps_iconst C (pc := 29) (v := 2) dX4_colourings_29 (by decide) ?_
        refine ps_aload_n C (pc := 30) dX4_colourings_30 0 rfl ?_
        refine pg_0_6 C (pc := 31) tw_212 dX4_colourings_31 ?_
        obtain ⟨q2, hq2, h⟩ := ps_bd h
        refine ps_callSV C Z (pc := 34) (As := [.ref (z_ad z 1), .int (2 : Int32), .ref (z_ad z 42)]) (mX4_measureAll (by rfl) hq2) tw_454 tw_455 tw_65 tw_456 hdX4_measureAll rfl rfl ⟨by decide, by decide⟩ rfl (Nat.le_of_ble_eq_true rfl) dX4_colourings_34 rfl ?_
        refine ps_aload_n C (pc := 37) dX4_colourings_37 0 rfl ?_
        refine pg_0_5 C (pc := 38) tw_211 dX4_colourings_38 ?_
        refine ps_iload_n C (pc := 41) dX4_colourings_41 2 rfl ?_
        obtain ⟨q3, hq3, h⟩ := ps_bd h
        refine ps_callVV C Z (pc := 42) (As := [.int a2]) (k0 := 39) (mX3_slopesOfChoices  hq3) (Cn := "PartSums$Series") rfl tw_617 tw_521 tw_522 tw_69 tw_523 hdX3_slopesOfChoices rfl rfl ⟨by decide, by decide⟩ (by decide) ps_o39 rfl rfl (Nat.le_of_ble_eq_true rfl) dX4_colourings_42 rfl ?_
        refine ps_aload_n C (pc := 45) dX4_colourings_45 0 rfl ?_
        refine pg_0_5 C (pc := 46) tw_211 dX4_colourings_46 ?_
        refine ps_aload_n C (pc := 49) dX4_colourings_49 0 rfl ?_
        refine pg_0_6 C (pc := 50) tw_212 dX4_colourings_50 ?_
        refine ps_aload_n C (pc := 53) dX4_colourings_53 0 rfl ?_
        refine pg_0_0 C (pc := 54) tw_206 dX4_colourings_54 ?_
        refine pg_1_0 C (pc := 57) tw_100 dX4_colourings_57 ?_
        refine ps_iconst C (pc := 60) (v := 1) dX4_colourings_60 (by decide) ?_
        obtain ⟨q4, hq4, h⟩ := ps_bd h
        refine ps_callVV C Z (pc := 61) (As := [.ref (z_ad z 42), .int (q3.1 1 0), .int (1 : Int32)]) (k0 := 39) (mX3_compose (by rfl) hq4) (Cn := "PartSums$Series") rfl tw_532 tw_533 tw_534 tw_69 tw_535 hdX3_compose rfl rfl ⟨by decide, by decide⟩ (by decide) ps_o39 rfl rfl (Nat.le_of_ble_eq_true rfl) dX4_colourings_61 rfl ?_
        refine ps_aload_n C (pc := 64) dX4_colourings_64 0 rfl ?_
        refine pg_0_5 C (pc := 65) tw_211 dX4_colourings_65 ?_
        refine pg_39_0 C (pc := 68) tw_199 dX4_colourings_68 ?_
        refine ps_iload_n C (pc := 71) dX4_colourings_71 1 rfl ?_
        obtain ⟨hi5, h⟩ := ps_ck_s h
        refine ps_lald C (pc := 72) 40 rfl rfl hi5 dX4_colourings_72 ?_
        obtain rfl := Option.some.inj h
        exact k _ _ dX4_colourings_73
      · have h := ps_iff hc h
        refine ps_ldc2 C (pc := 21) tw_616 dX4_colourings_21 ?_
        obtain rfl := Option.some.inj h
        exact k _ _ dX4_colourings_24
def rmX4_colourings : Room := { frames := 4, cells := 0, slots := 0, locals := 93 }
theorem mX4_colourings {l : Launch} {E : ps_E} {σ : ps_S} {a1 : Int32} {a2 : Int32} {r : Int64 × ps_S}  (h : fX4_colourings a1 a2 σ = some r) : ps_ML l yX4_colourings (ps_wm yX4_colourings cX4_colourings 3 (some .long)) rmX4_colourings [.ref (e_ad E 0), .int a1, .int a2] E σ r.1 r.2 :=
  ps_metL yX4_colourings rmX4_colourings 3 (own := "PartSums") r.1 (by decide +kernel) rfl (Nat.le_of_ble_eq_true rfl) rfl (fun z e1 e2 e3 e4 e5 C k => by
    subst e5
    exact tX4_colourings C (ps_Zof e1 e3 e4)  h k)
theorem hdX4_colourings : yX4_colourings.cls ≠ "java/lang/invoke/MethodHandle" ∧ yX4_colourings.cls ≠ "java/lang/invoke/VarHandle" ∧ (parseMethodDescriptor yX4_colourings.desc).map (fun d => d.parameters.length) = some 2 := by decide +kernel
def fX4_hangs (a1 : Int32) (σ : ps_S) : Option (Int32 × ps_S) :=
  ((fX1_hasSet a1 σ).bind fun q1 =>
  (if q1 = 0 then some ((-1 : Int32), σ)
  else ((fX4_measureAll (4 : Int32) 42 σ).bind fun q2 =>
  ((fX3_slopesOfRoots q2).bind fun q3 =>
  ((fX3_compose 42 (q3.1 1 0) (1 : Int32) q3).bind fun q4 =>
  (ps_ck a1 256 (some ((Int64.toInt32 (q4.2 40 (Int32.toNatClampNeg a1))), q4))))))))
set_option maxHeartbeats 4000000 in
set_option maxRecDepth 100000 in
theorem tX4_hangs {z : ps_X} (C : ps_C z cX4_hangs 2 "PartSums") (Z : ps_Z z 4 93) {a1 : Int32} {σ : ps_S}  {r : Int32 × ps_S} (h : fX4_hangs a1 σ = some r) (k : ps_KI z 2 cX4_hangs r.1 r.2) : ps_at z 2 0 [(0, .ref (z_ad z 0)), (1, .int a1)] [] σ := by
  unfold fX4_hangs at h
  refine ps_aload_n C (pc := 0) dX4_hangs_0 0 rfl ?_
  refine pg_0_0 C (pc := 1) tw_206 dX4_hangs_1 ?_
  refine ps_iload_n C (pc := 4) dX4_hangs_4 1 rfl ?_
  obtain ⟨q1, hq1, h⟩ := ps_bd h
  refine ps_callVI C Z (pc := 5) (As := [.int a1]) (k0 := 1) (mX1_hasSet  hq1) (Cn := "PartSums$Ground") rfl tw_404 tw_405 tw_406 tw_66 tw_407 hdX1_hasSet rfl rfl ⟨by decide, by decide⟩ (by decide) ps_o1 rfl rfl (Nat.le_of_ble_eq_true rfl) dX4_hangs_5 rfl ?_
  refine ps_if_ne C (pc := 8) 13 dX4_hangs_8 (by decide) (fun hc => ?_) (fun hc => ?_)
  · have h := ps_iff hc h
    refine ps_aload_n C (pc := 13) dX4_hangs_13 0 rfl ?_
    refine pg_0_0 C (pc := 14) tw_206 dX4_hangs_14 ?_
    refine ps_iconst C (pc := 17) (v := 4) dX4_hangs_17 (by decide) ?_
    refine ps_aload_n C (pc := 18) dX4_hangs_18 0 rfl ?_
    refine pg_0_6 C (pc := 19) tw_212 dX4_hangs_19 ?_
    obtain ⟨q2, hq2, h⟩ := ps_bd h
    refine ps_callSV C Z (pc := 22) (As := [.ref (z_ad z 1), .int (4 : Int32), .ref (z_ad z 42)]) (mX4_measureAll (by rfl) hq2) tw_454 tw_455 tw_65 tw_456 hdX4_measureAll rfl rfl ⟨by decide, by decide⟩ rfl (Nat.le_of_ble_eq_true rfl) dX4_hangs_22 rfl ?_
    refine ps_aload_n C (pc := 25) dX4_hangs_25 0 rfl ?_
    refine pg_0_5 C (pc := 26) tw_211 dX4_hangs_26 ?_
    obtain ⟨q3, hq3, h⟩ := ps_bd h
    refine ps_callVV C Z (pc := 29) (As := []) (k0 := 39) (mX3_slopesOfRoots  hq3) (Cn := "PartSums$Series") rfl tw_562 tw_563 tw_564 tw_69 tw_565 hdX3_slopesOfRoots rfl rfl ⟨by decide, by decide⟩ (by decide) ps_o39 rfl rfl (Nat.le_of_ble_eq_true rfl) dX4_hangs_29 rfl ?_
    refine ps_aload_n C (pc := 32) dX4_hangs_32 0 rfl ?_
    refine pg_0_5 C (pc := 33) tw_211 dX4_hangs_33 ?_
    refine ps_aload_n C (pc := 36) dX4_hangs_36 0 rfl ?_
    refine pg_0_6 C (pc := 37) tw_212 dX4_hangs_37 ?_
    refine ps_aload_n C (pc := 40) dX4_hangs_40 0 rfl ?_
    refine pg_0_0 C (pc := 41) tw_206 dX4_hangs_41 ?_
    refine pg_1_0 C (pc := 44) tw_100 dX4_hangs_44 ?_
    refine ps_iconst C (pc := 47) (v := 1) dX4_hangs_47 (by decide) ?_
    obtain ⟨q4, hq4, h⟩ := ps_bd h
    refine ps_callVV C Z (pc := 48) (As := [.ref (z_ad z 42), .int (q3.1 1 0), .int (1 : Int32)]) (k0 := 39) (mX3_compose (by rfl) hq4) (Cn := "PartSums$Series") rfl tw_532 tw_533 tw_534 tw_69 tw_535 hdX3_compose rfl rfl ⟨by decide, by decide⟩ (by decide) ps_o39 rfl rfl (Nat.le_of_ble_eq_true rfl) dX4_hangs_48 rfl ?_
    refine ps_aload_n C (pc := 51) dX4_hangs_51 0 rfl ?_
    refine pg_0_5 C (pc := 52) tw_211 dX4_hangs_52 ?_
    refine pg_39_0 C (pc := 55) tw_199 dX4_hangs_55 ?_
    refine ps_iload_n C (pc := 58) dX4_hangs_58 1 rfl ?_
    obtain ⟨hi5, h⟩ := ps_ck_s h
    refine ps_lald C (pc := 59) 40 rfl rfl hi5 dX4_hangs_59 ?_
    refine ps_l2i C (pc := 60) dX4_hangs_60 ?_
    obtain rfl := Option.some.inj h
    exact k _ _ dX4_hangs_61
  · have h := ps_ift hc h
    refine ps_iconst C (pc := 11) (v := -1) dX4_hangs_11 (by decide) ?_
    obtain rfl := Option.some.inj h
    exact k _ _ dX4_hangs_12
def rmX4_hangs : Room := { frames := 4, cells := 0, slots := 0, locals := 93 }
theorem mX4_hangs {l : Launch} {E : ps_E} {σ : ps_S} {a1 : Int32} {r : Int32 × ps_S}  (h : fX4_hangs a1 σ = some r) : ps_MI l yX4_hangs (ps_wm yX4_hangs cX4_hangs 2 (some .int)) rmX4_hangs [.ref (e_ad E 0), .int a1] E σ r.1 r.2 :=
  ps_metI yX4_hangs rmX4_hangs 2 (own := "PartSums") r.1 (by decide +kernel) rfl (Nat.le_of_ble_eq_true rfl) rfl (fun z e1 e2 e3 e4 e5 C k => by
    subst e5
    exact tX4_hangs C (ps_Zof e1 e3 e4)  h k)
theorem hdX4_hangs : yX4_hangs.cls ≠ "java/lang/invoke/MethodHandle" ∧ yX4_hangs.cls ≠ "java/lang/invoke/VarHandle" ∧ (parseMethodDescriptor yX4_hangs.desc).map (fun d => d.parameters.length) = some 1 := by decide +kernel
def fX4_weigh (a1 : Int32) (a2 : Int32) (σ : ps_S) : Option (Int32 × ps_S) :=
  ((fX1_hasSet a1 σ).bind fun q1 =>
  (if q1 = 0 then some ((-1 : Int32), σ)
  else (if a2 < 0 then some ((-1 : Int32), σ)
  else (if (999 : Int32) < a2 then some ((-1 : Int32), σ)
  else (ps_ck (4 : Int32) 5 ((ps_ck a1 256 ((if (σ.1 (2 + 1 + (Int32.toNatClampNeg (4 : Int32))) (Int32.toNatClampNeg a1)) = a2 then some ((-1 : Int32), σ)
  else (ps_ck (4 : Int32) 5 ((ps_ck a1 256 ((ps_let (σ.1 (2 + 1 + (Int32.toNatClampNeg (4 : Int32))) (Int32.toNatClampNeg a1)) fun x6 =>
  ((fX0_keepLine (4 : Int32) σ).bind fun q7 =>
  (ps_ck (4 : Int32) 5 ((ps_ck a1 256 ((ps_let (ps_ui q7 (2 + 1 + (Int32.toNatClampNeg (4 : Int32))) (Int32.toNatClampNeg a1) a2) fun σ10 =>
  some (x6, σ10)))))))))))))))))))))
set_option maxHeartbeats 4000000 in
set_option maxRecDepth 100000 in
theorem tX4_weigh {z : ps_X} (C : ps_C z cX4_weigh 4 "PartSums") (Z : ps_Z z 3 143) {a1 : Int32} {a2 : Int32} {σ : ps_S}  {r : Int32 × ps_S} (h : fX4_weigh a1 a2 σ = some r) (k : ps_KI z 4 cX4_weigh r.1 r.2) : ps_at z 4 0 [(0, .ref (z_ad z 0)), (1, .int a1), (2, .int a2)] [] σ := by
  unfold fX4_weigh at h
  refine ps_aload_n C (pc := 0) dX4_weigh_0 0 rfl ?_
  refine pg_0_0 C (pc := 1) tw_206 dX4_weigh_1 ?_
  refine ps_iload_n C (pc := 4) dX4_weigh_4 1 rfl ?_
  obtain ⟨q1, hq1, h⟩ := ps_bd h
  refine ps_callVI C Z (pc := 5) (As := [.int a1]) (k0 := 1) (mX1_hasSet  hq1) (Cn := "PartSums$Ground") rfl tw_404 tw_405 tw_406 tw_66 tw_407 hdX1_hasSet rfl rfl ⟨by decide, by decide⟩ (by decide) ps_o1 rfl rfl (Nat.le_of_ble_eq_true rfl) dX4_weigh_5 rfl ?_
  refine ps_if_eq C (pc := 8) 37 dX4_weigh_8 (by decide) (fun hc => ?_) (fun hc => ?_)
  · have h := ps_ift hc h
    refine ps_iconst C (pc := 37) (v := -1) dX4_weigh_37 (by decide) ?_
    obtain rfl := Option.some.inj h
    exact k _ _ dX4_weigh_38
  · have h := ps_iff hc h
    refine ps_iload_n C (pc := 11) dX4_weigh_11 2 rfl ?_
    refine ps_if_lt C (pc := 12) 37 dX4_weigh_12 (by decide) (fun hc => ?_) (fun hc => ?_)
    · have h := ps_ift hc h
      refine ps_iconst C (pc := 37) (v := -1) dX4_weigh_37 (by decide) ?_
      obtain rfl := Option.some.inj h
      exact k _ _ dX4_weigh_38
    · have h := ps_iff hc h
      refine ps_iload_n C (pc := 15) dX4_weigh_15 2 rfl ?_
      refine ps_sipush C (pc := 16) (v := 999) dX4_weigh_16 (by decide) ?_
      refine ps_icmp_gt C (pc := 19) 37 dX4_weigh_19 (by decide) (fun hc => ?_) (fun hc => ?_)
      · have h := ps_ift hc h
        refine ps_iconst C (pc := 37) (v := -1) dX4_weigh_37 (by decide) ?_
        obtain rfl := Option.some.inj h
        exact k _ _ dX4_weigh_38
      · have h := ps_iff hc h
        refine ps_aload_n C (pc := 22) dX4_weigh_22 0 rfl ?_
        refine pg_0_0 C (pc := 23) tw_206 dX4_weigh_23 ?_
        refine pg_1_3 C (pc := 26) tw_106 dX4_weigh_26 ?_
        refine ps_iconst C (pc := 29) (v := 4) dX4_weigh_29 (by decide) ?_
        obtain ⟨hi2, h⟩ := ps_ck_s h
        refine ps_aald C (pc := 30) 2 rfl rfl hi2 dX4_weigh_30 ?_
        refine ps_iload_n C (pc := 31) dX4_weigh_31 1 rfl ?_
        obtain ⟨hi3, h⟩ := ps_ck_s h
        refine ps_iald C (pc := 32) (2 + 1 + (Int32.toNatClampNeg (4 : Int32))) (ps_rw2 hi2).1 (ps_rw2 hi2).2 hi3 dX4_weigh_32 ?_
        refine ps_iload_n C (pc := 33) dX4_weigh_33 2 rfl ?_
        refine ps_icmp_ne C (pc := 34) 39 dX4_weigh_34 (by decide) (fun hc => ?_) (fun hc => ?_)
        · have h := ps_iff hc h
          refine ps_aload_n C (pc := 39) dX4_weigh_39 0 rfl ?_
          refine pg_0_0 C (pc := 40) tw_206 dX4_weigh_40 ?_
          refine pg_1_3 C (pc := 43) tw_106 dX4_weigh_43 ?_
          refine ps_iconst C (pc := 46) (v := 4) dX4_weigh_46 (by decide) ?_
          obtain ⟨hi4, h⟩ := ps_ck_s h
          refine ps_aald C (pc := 47) 2 rfl rfl hi4 dX4_weigh_47 ?_
          refine ps_iload_n C (pc := 48) dX4_weigh_48 1 rfl ?_
          obtain ⟨hi5, h⟩ := ps_ck_s h
          refine ps_iald C (pc := 49) (2 + 1 + (Int32.toNatClampNeg (4 : Int32))) (ps_rw2 hi4).1 (ps_rw2 hi4).2 hi5 dX4_weigh_49 ?_
          refine ps_istoreL_n C (pc := 50) (lw := fun x6 => [(3, .int x6), (0, .ref (z_ad z 0)), (1, .int a1), (2, .int a2)]) dX4_weigh_50 (by decide) (fun _ => rfl) h (fun x6 h => ?_)
          refine ps_aload_n C (pc := 51) dX4_weigh_51 1 rfl ?_
          refine pg_0_3 C (pc := 52) tw_209 dX4_weigh_52 ?_
          refine ps_aload_n C (pc := 55) dX4_weigh_55 1 rfl ?_
          refine pg_0_0 C (pc := 56) tw_206 dX4_weigh_56 ?_
          refine ps_iconst C (pc := 59) (v := 4) dX4_weigh_59 (by decide) ?_
          obtain ⟨q7, hq7, h⟩ := ps_bd h
          refine ps_callVV C Z (pc := 60) (As := [.ref (z_ad z 1), .int (4 : Int32)]) (k0 := 22) (mX0_keepLine  hq7) (Cn := "PartSums$Acts") rfl tw_436 tw_437 tw_438 tw_67 tw_439 hdX0_keepLine rfl rfl ⟨by decide, by decide⟩ (by decide) ps_o22 rfl rfl (Nat.le_of_ble_eq_true rfl) dX4_weigh_60 rfl ?_
          refine ps_aload_n C (pc := 63) dX4_weigh_63 1 rfl ?_
          refine pg_0_0 C (pc := 64) tw_206 dX4_weigh_64 ?_
          refine pg_1_3 C (pc := 67) tw_106 dX4_weigh_67 ?_
          refine ps_iconst C (pc := 70) (v := 4) dX4_weigh_70 (by decide) ?_
          obtain ⟨hi8, h⟩ := ps_ck_s h
          refine ps_aald C (pc := 71) 2 rfl rfl hi8 dX4_weigh_71 ?_
          refine ps_iload_n C (pc := 72) dX4_weigh_72 2 rfl ?_
          refine ps_iload_n C (pc := 73) dX4_weigh_73 3 rfl ?_
          obtain ⟨hi9, h⟩ := ps_ck_s h
          refine ps_iastL C (pc := 74) (2 + 1 + (Int32.toNatClampNeg (4 : Int32))) (ps_rw2 hi8).1 (ps_rw2 hi8).2 hi9 dX4_weigh_74 h (fun σ10 h => ?_)
          refine ps_iload_n C (pc := 75) dX4_weigh_75 0 rfl ?_
          obtain rfl := Option.some.inj h
          exact k _ _ dX4_weigh_76
        · have h := ps_ift hc h
          refine ps_iconst C (pc := 37) (v := -1) dX4_weigh_37 (by decide) ?_
          obtain rfl := Option.some.inj h
          exact k _ _ dX4_weigh_38
def rmX4_weigh : Room := { frames := 3, cells := 0, slots := 0, locals := 143 }
theorem mX4_weigh {l : Launch} {E : ps_E} {σ : ps_S} {a1 : Int32} {a2 : Int32} {r : Int32 × ps_S}  (h : fX4_weigh a1 a2 σ = some r) : ps_MI l yX4_weigh (ps_wm yX4_weigh cX4_weigh 4 (some .int)) rmX4_weigh [.ref (e_ad E 0), .int a1, .int a2] E σ r.1 r.2 :=
  ps_metI yX4_weigh rmX4_weigh 4 (own := "PartSums") r.1 (by decide +kernel) rfl (Nat.le_of_ble_eq_true rfl) rfl (fun z e1 e2 e3 e4 e5 C k => by
    subst e5
    exact tX4_weigh C (ps_Zof e1 e3 e4)  h k)
theorem hdX4_weigh : yX4_weigh.cls ≠ "java/lang/invoke/MethodHandle" ∧ yX4_weigh.cls ≠ "java/lang/invoke/VarHandle" ∧ (parseMethodDescriptor yX4_weigh.desc).map (fun d => d.parameters.length) = some 2 := by decide +kernel
def fX4_join (a1 : Int32) (a2 : Int32) (a3 : Int32) (σ : ps_S) : Option (Int32 × ps_S) :=
  ((fX1_hasThing a1 σ).bind fun q1 =>
  (if q1 = 0 then some ((-1 : Int32), σ)
  else ((fX1_hasThing a2 σ).bind fun q2 =>
  (if q2 = 0 then some ((-1 : Int32), σ)
  else (if a1 = a2 then some ((-1 : Int32), σ)
  else ((fX1_areMates a1 a2 σ).bind fun q3 =>
  (if q3 = a3 then some ((-1 : Int32), σ)
  else ((fX0_keepLine (4 : Int32) σ).bind fun q4 =>
  ((fX1_turnPair a1 a2 q4).bind fun q5 =>
  ((fX1_countPairs q5).bind fun q6 =>
  some (q6, q5)))))))))))
set_option maxHeartbeats 4000000 in
set_option maxRecDepth 100000 in
theorem tX4_join {z : ps_X} (C : ps_C z cX4_join 4 "PartSums") (Z : ps_Z z 3 143) {a1 : Int32} {a2 : Int32} {a3 : Int32} {σ : ps_S}  {r : Int32 × ps_S} (h : fX4_join a1 a2 a3 σ = some r) (k : ps_KI z 4 cX4_join r.1 r.2) : ps_at z 4 0 [(0, .ref (z_ad z 0)), (1, .int a1), (2, .int a2), (3, .int a3)] [] σ := by
  unfold fX4_join at h
  refine ps_aload_n C (pc := 0) dX4_join_0 0 rfl ?_
  refine pg_0_0 C (pc := 1) tw_206 dX4_join_1 ?_
  refine ps_iload_n C (pc := 4) dX4_join_4 1 rfl ?_
  obtain ⟨q1, hq1, h⟩ := ps_bd h
  refine ps_callVI C Z (pc := 5) (As := [.int a1]) (k0 := 1) (mX1_hasThing  hq1) (Cn := "PartSums$Ground") rfl tw_416 tw_417 tw_418 tw_66 tw_419 hdX1_hasThing rfl rfl ⟨by decide, by decide⟩ (by decide) ps_o1 rfl rfl (Nat.le_of_ble_eq_true rfl) dX4_join_5 rfl ?_
  refine ps_if_eq C (pc := 8) 40 dX4_join_8 (by decide) (fun hc => ?_) (fun hc => ?_)
  · have h := ps_ift hc h
    refine ps_iconst C (pc := 40) (v := -1) dX4_join_40 (by decide) ?_
    obtain rfl := Option.some.inj h
    exact k _ _ dX4_join_41
  · have h := ps_iff hc h
    refine ps_aload_n C (pc := 11) dX4_join_11 0 rfl ?_
    refine pg_0_0 C (pc := 12) tw_206 dX4_join_12 ?_
    refine ps_iload_n C (pc := 15) dX4_join_15 2 rfl ?_
    obtain ⟨q2, hq2, h⟩ := ps_bd h
    refine ps_callVI C Z (pc := 16) (As := [.int a2]) (k0 := 1) (mX1_hasThing  hq2) (Cn := "PartSums$Ground") rfl tw_416 tw_417 tw_418 tw_66 tw_419 hdX1_hasThing rfl rfl ⟨by decide, by decide⟩ (by decide) ps_o1 rfl rfl (Nat.le_of_ble_eq_true rfl) dX4_join_16 rfl ?_
    refine ps_if_eq C (pc := 19) 40 dX4_join_19 (by decide) (fun hc => ?_) (fun hc => ?_)
    · have h := ps_ift hc h
      refine ps_iconst C (pc := 40) (v := -1) dX4_join_40 (by decide) ?_
      obtain rfl := Option.some.inj h
      exact k _ _ dX4_join_41
    · have h := ps_iff hc h
      refine ps_iload_n C (pc := 22) dX4_join_22 1 rfl ?_
      refine ps_iload_n C (pc := 23) dX4_join_23 2 rfl ?_
      refine ps_icmp_eq C (pc := 24) 40 dX4_join_24 (by decide) (fun hc => ?_) (fun hc => ?_)
      · have h := ps_ift hc h
        refine ps_iconst C (pc := 40) (v := -1) dX4_join_40 (by decide) ?_
        obtain rfl := Option.some.inj h
        exact k _ _ dX4_join_41
      · have h := ps_iff hc h
        refine ps_aload_n C (pc := 27) dX4_join_27 0 rfl ?_
        refine pg_0_0 C (pc := 28) tw_206 dX4_join_28 ?_
        refine ps_iload_n C (pc := 31) dX4_join_31 1 rfl ?_
        refine ps_iload_n C (pc := 32) dX4_join_32 2 rfl ?_
        obtain ⟨q3, hq3, h⟩ := ps_bd h
        refine ps_callVI C Z (pc := 33) (As := [.int a1, .int a2]) (k0 := 1) (mX1_areMates  hq3) (Cn := "PartSums$Ground") rfl tw_630 tw_631 tw_632 tw_66 tw_633 hdX1_areMates rfl rfl ⟨by decide, by decide⟩ (by decide) ps_o1 rfl rfl (Nat.le_of_ble_eq_true rfl) dX4_join_33 rfl ?_
        refine ps_iload_n C (pc := 36) dX4_join_36 3 rfl ?_
        refine ps_icmp_ne C (pc := 37) 42 dX4_join_37 (by decide) (fun hc => ?_) (fun hc => ?_)
        · have h := ps_iff hc h
          refine ps_aload_n C (pc := 42) dX4_join_42 0 rfl ?_
          refine pg_0_3 C (pc := 43) tw_209 dX4_join_43 ?_
          refine ps_aload_n C (pc := 46) dX4_join_46 0 rfl ?_
          refine pg_0_0 C (pc := 47) tw_206 dX4_join_47 ?_
          refine ps_iconst C (pc := 50) (v := 4) dX4_join_50 (by decide) ?_
          obtain ⟨q4, hq4, h⟩ := ps_bd h
          refine ps_callVV C Z (pc := 51) (As := [.ref (z_ad z 1), .int (4 : Int32)]) (k0 := 22) (mX0_keepLine  hq4) (Cn := "PartSums$Acts") rfl tw_436 tw_437 tw_438 tw_67 tw_439 hdX0_keepLine rfl rfl ⟨by decide, by decide⟩ (by decide) ps_o22 rfl rfl (Nat.le_of_ble_eq_true rfl) dX4_join_51 rfl ?_
          refine ps_aload_n C (pc := 54) dX4_join_54 0 rfl ?_
          refine pg_0_0 C (pc := 55) tw_206 dX4_join_55 ?_
          refine ps_iload_n C (pc := 58) dX4_join_58 1 rfl ?_
          refine ps_iload_n C (pc := 59) dX4_join_59 2 rfl ?_
          obtain ⟨q5, hq5, h⟩ := ps_bd h
          refine ps_callVV C Z (pc := 60) (As := [.int a1, .int a2]) (k0 := 1) (mX1_turnPair  hq5) (Cn := "PartSums$Ground") rfl tw_635 tw_636 tw_637 tw_66 tw_638 hdX1_turnPair rfl rfl ⟨by decide, by decide⟩ (by decide) ps_o1 rfl rfl (Nat.le_of_ble_eq_true rfl) dX4_join_60 rfl ?_
          refine ps_aload_n C (pc := 63) dX4_join_63 0 rfl ?_
          refine pg_0_0 C (pc := 64) tw_206 dX4_join_64 ?_
          obtain ⟨q6, hq6, h⟩ := ps_bd h
          refine ps_callVI C Z (pc := 67) (As := []) (k0 := 1) (mX1_countPairs  hq6) (Cn := "PartSums$Ground") rfl tw_390 tw_391 tw_392 tw_66 tw_393 hdX1_countPairs rfl rfl ⟨by decide, by decide⟩ (by decide) ps_o1 rfl rfl (Nat.le_of_ble_eq_true rfl) dX4_join_67 rfl ?_
          obtain rfl := Option.some.inj h
          exact k _ _ dX4_join_70
        · have h := ps_ift hc h
          refine ps_iconst C (pc := 40) (v := -1) dX4_join_40 (by decide) ?_
          obtain rfl := Option.some.inj h
          exact k _ _ dX4_join_41
def rmX4_join : Room := { frames := 3, cells := 0, slots := 0, locals := 143 }
theorem mX4_join {l : Launch} {E : ps_E} {σ : ps_S} {a1 : Int32} {a2 : Int32} {a3 : Int32} {r : Int32 × ps_S}  (h : fX4_join a1 a2 a3 σ = some r) : ps_MI l yX4_join (ps_wm yX4_join cX4_join 4 (some .int)) rmX4_join [.ref (e_ad E 0), .int a1, .int a2, .int a3] E σ r.1 r.2 :=
  ps_metI yX4_join rmX4_join 4 (own := "PartSums") r.1 (by decide +kernel) rfl (Nat.le_of_ble_eq_true rfl) rfl (fun z e1 e2 e3 e4 e5 C k => by
    subst e5
    exact tX4_join C (ps_Zof e1 e3 e4)  h k)
theorem hdX4_join : yX4_join.cls ≠ "java/lang/invoke/MethodHandle" ∧ yX4_join.cls ≠ "java/lang/invoke/VarHandle" ∧ (parseMethodDescriptor yX4_join.desc).map (fun d => d.parameters.length) = some 3 := by decide +kernel
def fX4_name (a1 : Int32) (a2 : Int32) (σ : ps_S) : Option (Int32 × ps_S) :=
  ((fX1_hasThing a1 σ).bind fun q1 =>
  (if q1 = 0 then some ((-1 : Int32), σ)
  else ((fX1_hasThing a2 σ).bind fun q2 =>
  (if q2 = 0 then some ((-1 : Int32), σ)
  else (if a1 = a2 then some ((-1 : Int32), σ)
  else ((fX0_keepNames a1 a2 σ).bind fun q3 =>
  ((fX1_swapNames a1 a2 q3).bind fun q4 =>
  ((fX1_countParted a1 a2 q4).bind fun q5 =>
  some (q5, q4)))))))))
set_option maxHeartbeats 4000000 in
set_option maxRecDepth 100000 in
theorem tX4_name {z : ps_X} (C : ps_C z cX4_name 3 "PartSums") (Z : ps_Z z 3 143) {a1 : Int32} {a2 : Int32} {σ : ps_S}  {r : Int32 × ps_S} (h : fX4_name a1 a2 σ = some r) (k : ps_KI z 3 cX4_name r.1 r.2) : ps_at z 3 0 [(0, .ref (z_ad z 0)), (1, .int a1), (2, .int a2)] [] σ := by
  unfold fX4_name at h
  refine ps_aload_n C (pc := 0) dX4_name_0 0 rfl ?_
  refine pg_0_0 C (pc := 1) tw_206 dX4_name_1 ?_
  refine ps_iload_n C (pc := 4) dX4_name_4 1 rfl ?_
  obtain ⟨q1, hq1, h⟩ := ps_bd h
  refine ps_callVI C Z (pc := 5) (As := [.int a1]) (k0 := 1) (mX1_hasThing  hq1) (Cn := "PartSums$Ground") rfl tw_416 tw_417 tw_418 tw_66 tw_419 hdX1_hasThing rfl rfl ⟨by decide, by decide⟩ (by decide) ps_o1 rfl rfl (Nat.le_of_ble_eq_true rfl) dX4_name_5 rfl ?_
  refine ps_if_eq C (pc := 8) 27 dX4_name_8 (by decide) (fun hc => ?_) (fun hc => ?_)
  · have h := ps_ift hc h
    refine ps_iconst C (pc := 27) (v := -1) dX4_name_27 (by decide) ?_
    obtain rfl := Option.some.inj h
    exact k _ _ dX4_name_28
  · have h := ps_iff hc h
    refine ps_aload_n C (pc := 11) dX4_name_11 0 rfl ?_
    refine pg_0_0 C (pc := 12) tw_206 dX4_name_12 ?_
    refine ps_iload_n C (pc := 15) dX4_name_15 2 rfl ?_
    obtain ⟨q2, hq2, h⟩ := ps_bd h
    refine ps_callVI C Z (pc := 16) (As := [.int a2]) (k0 := 1) (mX1_hasThing  hq2) (Cn := "PartSums$Ground") rfl tw_416 tw_417 tw_418 tw_66 tw_419 hdX1_hasThing rfl rfl ⟨by decide, by decide⟩ (by decide) ps_o1 rfl rfl (Nat.le_of_ble_eq_true rfl) dX4_name_16 rfl ?_
    refine ps_if_eq C (pc := 19) 27 dX4_name_19 (by decide) (fun hc => ?_) (fun hc => ?_)
    · have h := ps_ift hc h
      refine ps_iconst C (pc := 27) (v := -1) dX4_name_27 (by decide) ?_
      obtain rfl := Option.some.inj h
      exact k _ _ dX4_name_28
    · have h := ps_iff hc h
      refine ps_iload_n C (pc := 22) dX4_name_22 1 rfl ?_
      refine ps_iload_n C (pc := 23) dX4_name_23 2 rfl ?_
      refine ps_icmp_ne C (pc := 24) 29 dX4_name_24 (by decide) (fun hc => ?_) (fun hc => ?_)
      · have h := ps_iff hc h
        refine ps_aload_n C (pc := 29) dX4_name_29 0 rfl ?_
        refine pg_0_3 C (pc := 30) tw_209 dX4_name_30 ?_
        refine ps_iload_n C (pc := 33) dX4_name_33 1 rfl ?_
        refine ps_iload_n C (pc := 34) dX4_name_34 2 rfl ?_
        obtain ⟨q3, hq3, h⟩ := ps_bd h
        refine ps_callVV C Z (pc := 35) (As := [.int a1, .int a2]) (k0 := 22) (mX0_keepNames  hq3) (Cn := "PartSums$Acts") rfl tw_643 tw_644 tw_645 tw_67 tw_646 hdX0_keepNames rfl rfl ⟨by decide, by decide⟩ (by decide) ps_o22 rfl rfl (Nat.le_of_ble_eq_true rfl) dX4_name_35 rfl ?_
        refine ps_aload_n C (pc := 38) dX4_name_38 0 rfl ?_
        refine pg_0_0 C (pc := 39) tw_206 dX4_name_39 ?_
        refine ps_iload_n C (pc := 42) dX4_name_42 1 rfl ?_
        refine ps_iload_n C (pc := 43) dX4_name_43 2 rfl ?_
        obtain ⟨q4, hq4, h⟩ := ps_bd h
        refine ps_callVV C Z (pc := 44) (As := [.int a1, .int a2]) (k0 := 1) (mX1_swapNames  hq4) (Cn := "PartSums$Ground") rfl tw_647 tw_648 tw_649 tw_66 tw_650 hdX1_swapNames rfl rfl ⟨by decide, by decide⟩ (by decide) ps_o1 rfl rfl (Nat.le_of_ble_eq_true rfl) dX4_name_44 rfl ?_
        refine ps_aload_n C (pc := 47) dX4_name_47 0 rfl ?_
        refine pg_0_0 C (pc := 48) tw_206 dX4_name_48 ?_
        refine ps_iload_n C (pc := 51) dX4_name_51 1 rfl ?_
        refine ps_iload_n C (pc := 52) dX4_name_52 2 rfl ?_
        obtain ⟨q5, hq5, h⟩ := ps_bd h
        refine ps_callVI C Z (pc := 53) (As := [.int a1, .int a2]) (k0 := 1) (mX1_countParted  hq5) (Cn := "PartSums$Ground") rfl tw_653 tw_654 tw_655 tw_66 tw_656 hdX1_countParted rfl rfl ⟨by decide, by decide⟩ (by decide) ps_o1 rfl rfl (Nat.le_of_ble_eq_true rfl) dX4_name_53 rfl ?_
        obtain rfl := Option.some.inj h
        exact k _ _ dX4_name_56
      · have h := ps_ift hc h
        refine ps_iconst C (pc := 27) (v := -1) dX4_name_27 (by decide) ?_
        obtain rfl := Option.some.inj h
        exact k _ _ dX4_name_28
def rmX4_name : Room := { frames := 3, cells := 0, slots := 0, locals := 143 }
theorem mX4_name {l : Launch} {E : ps_E} {σ : ps_S} {a1 : Int32} {a2 : Int32} {r : Int32 × ps_S}  (h : fX4_name a1 a2 σ = some r) : ps_MI l yX4_name (ps_wm yX4_name cX4_name 3 (some .int)) rmX4_name [.ref (e_ad E 0), .int a1, .int a2] E σ r.1 r.2 :=
  ps_metI yX4_name rmX4_name 3 (own := "PartSums") r.1 (by decide +kernel) rfl (Nat.le_of_ble_eq_true rfl) rfl (fun z e1 e2 e3 e4 e5 C k => by
    subst e5
    exact tX4_name C (ps_Zof e1 e3 e4)  h k)
theorem hdX4_name : yX4_name.cls ≠ "java/lang/invoke/MethodHandle" ∧ yX4_name.cls ≠ "java/lang/invoke/VarHandle" ∧ (parseMethodDescriptor yX4_name.desc).map (fun d => d.parameters.length) = some 2 := by decide +kernel
def pX4_drawn_S42 (z : ps_X) (a1 : Int32) (s : Int32 × Int32 × ps_S) : Prop := ps_at z 5 42 [(0, .ref (z_ad z 0)), (1, .int a1), (3, .int s.1), (4, .int s.2.1)] [] s.2.2
def qX4_drawn_S42 (z : ps_X) (a1 : Int32) (x : (ps_S)) : Prop := match x with | y => ps_at z 5 60 [(0, .ref (z_ad z 0))] [] y
def fX4_drawn_S42 (a1 : Int32) (a3 : Int32) (a4 : Int32) (σ : ps_S) : Option ((Int32 × Int32 × ps_S) ⊕ ((ps_S))) :=
  (if a1 ≤ a4 then some (.inr σ)
  else ((fX4_doDeed a3 σ).bind fun q2 =>
  (ps_let q2.1 fun x3 =>
  (ps_let (a4 + (1 : Int32)) fun x4 =>
  some (.inl (x3, x4, q2.2))))))
set_option maxHeartbeats 4000000 in
set_option maxRecDepth 100000 in
theorem tX4_drawn_S42 {z : ps_X} (C : ps_C z cX4_drawn 5 "PartSums") (Z : ps_Z z 3 143) (a1 : Int32)  (s : Int32 × Int32 × ps_S) (r : (Int32 × Int32 × ps_S) ⊕ ((ps_S))) (h : fX4_drawn_S42 a1 s.1 s.2.1 s.2.2 = some r) (k : ps_k (pX4_drawn_S42 z a1) (qX4_drawn_S42 z a1) r) : pX4_drawn_S42 z a1 s := by
  obtain ⟨a3, a4, σ⟩ := s
  unfold fX4_drawn_S42 at h
  unfold pX4_drawn_S42
  refine ps_iload C (pc := 42) dX4_drawn_42 3 rfl ?_
  refine ps_iload_n C (pc := 44) dX4_drawn_44 1 rfl ?_
  refine ps_icmp_ge C (pc := 45) 60 dX4_drawn_45 (by decide) (fun hc => ?_) (fun hc => ?_)
  · have h := ps_ift hc h
    obtain rfl := Option.some.inj h
    exact ps_sub [0] rfl k
  · have h := ps_iff hc h
    refine ps_aload_n C (pc := 48) dX4_drawn_48 0 rfl ?_
    refine ps_iload_n C (pc := 49) dX4_drawn_49 2 rfl ?_
    obtain ⟨q2, hq2, h⟩ := ps_bd h
    refine ps_callVI C Z (pc := 50) (As := [.int a3]) (k0 := 0) (mX4_doDeed  hq2) (Cn := "PartSums") rfl tw_661 tw_663 tw_21 tw_65 tw_664 hdX4_doDeed rfl rfl ⟨by decide, by decide⟩ (by decide) ps_o0 rfl rfl (Nat.le_of_ble_eq_true rfl) dX4_drawn_50 rfl ?_
    refine ps_istoreL_n C (pc := 53) (lw := fun x3 => [(3, .int x3), (0, .ref (z_ad z 0)), (1, .int a1), (4, .int a4)]) dX4_drawn_53 (by decide) (fun _ => rfl) h (fun x3 h => ?_)
    refine ps_iincL C (pc := 54) (zz := 1) (lw := fun x4 => [(4, .int x4), (3, .int x3), (0, .ref (z_ad z 0)), (1, .int a1)]) dX4_drawn_54 3 rfl (by decide) (by decide) (fun _ => rfl) h (fun x4 h => ?_)
    refine ps_goto C (pc := 57) 42 dX4_drawn_57 (by decide) ?_
    obtain rfl := Option.some.inj h
    exact ps_sub [2, 3, 1, 0] rfl k
def fX4_drawn (a1 : Int32) (a2 : Int32) (σ : ps_S) : Option (Int32 × ps_S) :=
  (if a1 < (1 : Int32) then some ((-1 : Int32), σ)
  else (if a1 ≤ (60 : Int32) then (if (σ.1 1 0) = 0 then some ((0 : Int32), σ)
  else ((fX0_keepLine (4 : Int32) σ).bind fun q1 =>
  ((ps_lp (fun s => fX4_drawn_S42 a1 s.1 s.2.1 s.2.2) 100000 (a2, (0 : Int32), q1)).bind fun e5 =>
  ((fX1_countTold e5).bind fun q6 =>
  some (q6, e5)))))
  else some ((-1 : Int32), σ)))
set_option maxHeartbeats 4000000 in
set_option maxRecDepth 100000 in
theorem tX4_drawn {z : ps_X} (C : ps_C z cX4_drawn 5 "PartSums") (Z : ps_Z z 3 143) {a1 : Int32} {a2 : Int32} {σ : ps_S}  {r : Int32 × ps_S} (h : fX4_drawn a1 a2 σ = some r) (k : ps_KI z 5 cX4_drawn r.1 r.2) : ps_at z 5 0 [(0, .ref (z_ad z 0)), (1, .int a1), (2, .int a2)] [] σ := by
  unfold fX4_drawn at h
  refine ps_iload_n C (pc := 0) dX4_drawn_0 1 rfl ?_
  refine ps_iconst C (pc := 1) (v := 1) dX4_drawn_1 (by decide) ?_
  refine ps_icmp_lt C (pc := 2) 11 dX4_drawn_2 (by decide) (fun hc => ?_) (fun hc => ?_)
  · have h := ps_ift hc h
    refine ps_iconst C (pc := 11) (v := -1) dX4_drawn_11 (by decide) ?_
    obtain rfl := Option.some.inj h
    exact k _ _ dX4_drawn_12
  · have h := ps_iff hc h
    refine ps_iload_n C (pc := 5) dX4_drawn_5 1 rfl ?_
    refine ps_bipush C (pc := 6) (v := 60) dX4_drawn_6 (by decide) ?_
    refine ps_icmp_le C (pc := 8) 13 dX4_drawn_8 (by decide) (fun hc => ?_) (fun hc => ?_)
    · have h := ps_ift hc h
      refine ps_aload_n C (pc := 13) dX4_drawn_13 0 rfl ?_
      refine pg_0_0 C (pc := 14) tw_206 dX4_drawn_14 ?_
      refine pg_1_0 C (pc := 17) tw_100 dX4_drawn_17 ?_
      refine ps_if_ne C (pc := 20) 25 dX4_drawn_20 (by decide) (fun hc => ?_) (fun hc => ?_)
      · have h := ps_iff hc h
        refine ps_aload_n C (pc := 25) dX4_drawn_25 0 rfl ?_
        refine pg_0_3 C (pc := 26) tw_209 dX4_drawn_26 ?_
        refine ps_aload_n C (pc := 29) dX4_drawn_29 0 rfl ?_
        refine pg_0_0 C (pc := 30) tw_206 dX4_drawn_30 ?_
        refine ps_iconst C (pc := 33) (v := 4) dX4_drawn_33 (by decide) ?_
        obtain ⟨q1, hq1, h⟩ := ps_bd h
        refine ps_callVV C Z (pc := 34) (As := [.ref (z_ad z 1), .int (4 : Int32)]) (k0 := 22) (mX0_keepLine  hq1) (Cn := "PartSums$Acts") rfl tw_436 tw_437 tw_438 tw_67 tw_439 hdX0_keepLine rfl rfl ⟨by decide, by decide⟩ (by decide) ps_o22 rfl rfl (Nat.le_of_ble_eq_true rfl) dX4_drawn_34 rfl ?_
        refine ps_iload_n C (pc := 37) dX4_drawn_37 2 rfl ?_
        refine ps_istore_n C (pc := 38) (lv' := [(3, .int a2), (0, .ref (z_ad z 0)), (1, .int a1), (2, .int a2)]) dX4_drawn_38 (by decide) rfl ?_
        refine ps_iconst C (pc := 39) (v := 0) dX4_drawn_39 (by decide) ?_
        refine ps_istore C (pc := 40) (lv' := [(4, .int (0 : Int32)), (3, .int a2), (0, .ref (z_ad z 0)), (1, .int a1), (2, .int a2)]) dX4_drawn_40 (by decide) rfl ?_
        obtain ⟨e5, he5, h⟩ := ps_bd h
        refine ps_sub [2, 3, 1, 0] rfl ?_
        refine ps_loop (P := pX4_drawn_S42 z a1) (K := qX4_drawn_S42 z a1) (fun s r h k => tX4_drawn_S42 C Z a1  s r h k) _ _ _ he5 ?_
        unfold qX4_drawn_S42
        refine ps_aload_n C (pc := 60) dX4_drawn_60 0 rfl ?_
        refine pg_0_0 C (pc := 61) tw_206 dX4_drawn_61 ?_
        obtain ⟨q6, hq6, h⟩ := ps_bd h
        refine ps_callVI C Z (pc := 64) (As := []) (k0 := 1) (mX1_countTold  hq6) (Cn := "PartSums$Ground") rfl tw_386 tw_387 tw_388 tw_66 tw_389 hdX1_countTold rfl rfl ⟨by decide, by decide⟩ (by decide) ps_o1 rfl rfl (Nat.le_of_ble_eq_true rfl) dX4_drawn_64 rfl ?_
        obtain rfl := Option.some.inj h
        exact k _ _ dX4_drawn_67
      · have h := ps_ift hc h
        refine ps_iconst C (pc := 23) (v := 0) dX4_drawn_23 (by decide) ?_
        obtain rfl := Option.some.inj h
        exact k _ _ dX4_drawn_24
    · have h := ps_iff hc h
      refine ps_iconst C (pc := 11) (v := -1) dX4_drawn_11 (by decide) ?_
      obtain rfl := Option.some.inj h
      exact k _ _ dX4_drawn_12
def rmX4_drawn : Room := { frames := 3, cells := 0, slots := 0, locals := 143 }
theorem mX4_drawn {l : Launch} {E : ps_E} {σ : ps_S} {a1 : Int32} {a2 : Int32} {r : Int32 × ps_S}  (h : fX4_drawn a1 a2 σ = some r) : ps_MI l yX4_drawn (ps_wm yX4_drawn cX4_drawn 5 (some .int)) rmX4_drawn [.ref (e_ad E 0), .int a1, .int a2] E σ r.1 r.2 :=
  ps_metI yX4_drawn rmX4_drawn 5 (own := "PartSums") r.1 (by decide +kernel) rfl (Nat.le_of_ble_eq_true rfl) rfl (fun z e1 e2 e3 e4 e5 C k => by
    subst e5
    exact tX4_drawn C (ps_Zof e1 e3 e4)  h k)
theorem hdX4_drawn : yX4_drawn.cls ≠ "java/lang/invoke/MethodHandle" ∧ yX4_drawn.cls ≠ "java/lang/invoke/VarHandle" ∧ (parseMethodDescriptor yX4_drawn.desc).map (fun d => d.parameters.length) = some 2 := by decide +kernel
def fX4_undo (σ : ps_S) : Option (Int32 × ps_S) :=
  (if (σ.1 22 0) = 0 then some ((-1 : Int32), σ)
  else ((fX0_takeBack σ).bind fun q1 =>
  some ((q1.1 22 0), q1)))
set_option maxHeartbeats 4000000 in
set_option maxRecDepth 100000 in
theorem tX4_undo {z : ps_X} (C : ps_C z cX4_undo 1 "PartSums") (Z : ps_Z z 4 121) {σ : ps_S}  {r : Int32 × ps_S} (h : fX4_undo σ = some r) (k : ps_KI z 1 cX4_undo r.1 r.2) : ps_at z 1 0 [(0, .ref (z_ad z 0))] [] σ := by
  unfold fX4_undo at h
  refine ps_aload_n C (pc := 0) dX4_undo_0 0 rfl ?_
  refine pg_0_3 C (pc := 1) tw_209 dX4_undo_1 ?_
  refine pg_22_0 C (pc := 4) tw_125 dX4_undo_4 ?_
  refine ps_if_ne C (pc := 7) 12 dX4_undo_7 (by decide) (fun hc => ?_) (fun hc => ?_)
  · have h := ps_iff hc h
    refine ps_aload_n C (pc := 12) dX4_undo_12 0 rfl ?_
    refine pg_0_3 C (pc := 13) tw_209 dX4_undo_13 ?_
    refine ps_aload_n C (pc := 16) dX4_undo_16 0 rfl ?_
    refine pg_0_0 C (pc := 17) tw_206 dX4_undo_17 ?_
    obtain ⟨q1, hq1, h⟩ := ps_bd h
    refine ps_callVV C Z (pc := 20) (As := [.ref (z_ad z 1)]) (k0 := 22) (mX0_takeBack  hq1) (Cn := "PartSums$Acts") rfl tw_676 tw_677 tw_678 tw_67 tw_679 hdX0_takeBack rfl rfl ⟨by decide, by decide⟩ (by decide) ps_o22 rfl rfl (Nat.le_of_ble_eq_true rfl) dX4_undo_20 rfl ?_
    refine ps_aload_n C (pc := 23) dX4_undo_23 0 rfl ?_
    refine pg_0_3 C (pc := 24) tw_209 dX4_undo_24 ?_
    refine pg_22_0 C (pc := 27) tw_125 dX4_undo_27 ?_
    obtain rfl := Option.some.inj h
    exact k _ _ dX4_undo_30
  · have h := ps_ift hc h
    refine ps_iconst C (pc := 10) (v := -1) dX4_undo_10 (by decide) ?_
    obtain rfl := Option.some.inj h
    exact k _ _ dX4_undo_11
def rmX4_undo : Room := { frames := 4, cells := 0, slots := 0, locals := 121 }
theorem mX4_undo {l : Launch} {E : ps_E} {σ : ps_S}  {r : Int32 × ps_S}  (h : fX4_undo σ = some r) : ps_MI l yX4_undo (ps_wm yX4_undo cX4_undo 1 (some .int)) rmX4_undo [.ref (e_ad E 0)] E σ r.1 r.2 :=
  ps_metI yX4_undo rmX4_undo 1 (own := "PartSums") r.1 (by decide +kernel) rfl (Nat.le_of_ble_eq_true rfl) rfl (fun z e1 e2 e3 e4 e5 C k => by
    subst e5
    exact tX4_undo C (ps_Zof e1 e3 e4)  h k)
theorem hdX4_undo : yX4_undo.cls ≠ "java/lang/invoke/MethodHandle" ∧ yX4_undo.cls ≠ "java/lang/invoke/VarHandle" ∧ (parseMethodDescriptor yX4_undo.desc).map (fun d => d.parameters.length) = some 0 := by decide +kernel
def fX4_image_J26 (σ : ps_S) : Option (Int32 × ps_S) :=
  ((fX1_copyFrom_15_1 σ).bind fun q1 =>
  (ps_let (ps_ui q1 15 2 (1 : Int32)) fun σ2 =>
  some ((1 : Int32), σ2)))
set_option maxHeartbeats 4000000 in
set_option maxRecDepth 100000 in
theorem tX4_image_J26 {z : ps_X} (C : ps_C z cX4_image 3 "PartSums") (Z : ps_Z z 2 122) {σ : ps_S}  {r : Int32 × ps_S} (h : fX4_image_J26 σ = some r) (k : ps_KZ z 3 cX4_image r.1 r.2) : ps_at z 3 26 [(0, .ref (z_ad z 0))] [.ref (z_ad z 15)] σ := by
  unfold fX4_image_J26 at h
  refine ps_astore_n C (pc := 26) (lv' := [(2, .ref (z_ad z 15)), (0, .ref (z_ad z 0))]) dX4_image_26 (by decide) rfl ?_
  refine ps_aload_n C (pc := 27) dX4_image_27 0 rfl ?_
  refine ps_aload_n C (pc := 28) dX4_image_28 1 rfl ?_
  refine pg_0_0 C (pc := 29) tw_206 dX4_image_29 ?_
  obtain ⟨q1, hq1, h⟩ := ps_bd h
  refine ps_callVV C Z (pc := 32) (As := [.ref (z_ad z 1)]) (k0 := 15) (mX1_copyFrom_15_1  hq1) (Cn := "PartSums$Ground") rfl tw_685 tw_686 tw_687 tw_66 tw_688 hdX1_copyFrom rfl rfl ⟨by decide, by decide⟩ (by decide) ps_o15 rfl rfl (Nat.le_of_ble_eq_true rfl) dX4_image_32 rfl ?_
  refine ps_aload_n C (pc := 35) dX4_image_35 0 rfl ?_
  refine ps_iconst C (pc := 36) (v := 1) dX4_image_36 (by decide) ?_
  refine pp_15_2 C (pc := 37) tw_103 dX4_image_37 (by rfl) (by rfl) h (fun σ2 h => ?_)
  refine ps_iconst C (pc := 40) (v := 1) dX4_image_40 (by decide) ?_
  obtain rfl := Option.some.inj h
  exact k _ _ (Or.inr rfl) dX4_image_41
def fX4_image_J26_1 (σ : ps_S) : Option (Int32 × ps_S) :=
  ((fX1_copyFrom_8_1 σ).bind fun q3 =>
  (ps_let (ps_ui q3 8 2 (1 : Int32)) fun σ4 =>
  some ((1 : Int32), σ4)))
set_option maxHeartbeats 4000000 in
set_option maxRecDepth 100000 in
theorem tX4_image_J26_1 {z : ps_X} (C : ps_C z cX4_image 3 "PartSums") (Z : ps_Z z 2 122) {σ : ps_S}  {r : Int32 × ps_S} (h : fX4_image_J26_1 σ = some r) (k : ps_KZ z 3 cX4_image r.1 r.2) : ps_at z 3 26 [(0, .ref (z_ad z 0))] [.ref (z_ad z 8)] σ := by
  unfold fX4_image_J26_1 at h
  refine ps_astore_n C (pc := 26) (lv' := [(2, .ref (z_ad z 8)), (0, .ref (z_ad z 0))]) dX4_image_26 (by decide) rfl ?_
  refine ps_aload_n C (pc := 27) dX4_image_27 0 rfl ?_
  refine ps_aload_n C (pc := 28) dX4_image_28 1 rfl ?_
  refine pg_0_0 C (pc := 29) tw_206 dX4_image_29 ?_
  obtain ⟨q3, hq3, h⟩ := ps_bd h
  refine ps_callVV C Z (pc := 32) (As := [.ref (z_ad z 1)]) (k0 := 8) (mX1_copyFrom_8_1  hq3) (Cn := "PartSums$Ground") rfl tw_685 tw_686 tw_687 tw_66 tw_688 hdX1_copyFrom rfl rfl ⟨by decide, by decide⟩ (by decide) ps_o8 rfl rfl (Nat.le_of_ble_eq_true rfl) dX4_image_32 rfl ?_
  refine ps_aload_n C (pc := 35) dX4_image_35 0 rfl ?_
  refine ps_iconst C (pc := 36) (v := 1) dX4_image_36 (by decide) ?_
  refine pp_8_2 C (pc := 37) tw_103 dX4_image_37 (by rfl) (by rfl) h (fun σ4 h => ?_)
  refine ps_iconst C (pc := 40) (v := 1) dX4_image_40 (by decide) ?_
  obtain rfl := Option.some.inj h
  exact k _ _ (Or.inr rfl) dX4_image_41
def fX4_image (a1 : Int32) (σ : ps_S) : Option (Int32 × ps_S) :=
  (if a1 < 0 then some ((0 : Int32), σ)
  else (if a1 ≤ (1 : Int32) then (if a1 = 0 then fX4_image_J26_1 σ
  else fX4_image_J26 σ)
  else some ((0 : Int32), σ)))
set_option maxHeartbeats 4000000 in
set_option maxRecDepth 100000 in
theorem tX4_image {z : ps_X} (C : ps_C z cX4_image 3 "PartSums") (Z : ps_Z z 2 122) {a1 : Int32} {σ : ps_S}  {r : Int32 × ps_S} (h : fX4_image a1 σ = some r) (k : ps_KZ z 3 cX4_image r.1 r.2) : ps_at z 3 0 [(0, .ref (z_ad z 0)), (1, .int a1)] [] σ := by
  unfold fX4_image at h
  refine ps_iload_n C (pc := 0) dX4_image_0 1 rfl ?_
  refine ps_if_lt C (pc := 1) 9 dX4_image_1 (by decide) (fun hc => ?_) (fun hc => ?_)
  · have h := ps_ift hc h
    refine ps_iconst C (pc := 9) (v := 0) dX4_image_9 (by decide) ?_
    obtain rfl := Option.some.inj h
    exact k _ _ (Or.inl rfl) dX4_image_10
  · have h := ps_iff hc h
    refine ps_iload_n C (pc := 4) dX4_image_4 1 rfl ?_
    refine ps_iconst C (pc := 5) (v := 1) dX4_image_5 (by decide) ?_
    refine ps_icmp_le C (pc := 6) 11 dX4_image_6 (by decide) (fun hc => ?_) (fun hc => ?_)
    · have h := ps_ift hc h
      refine ps_iload_n C (pc := 11) dX4_image_11 1 rfl ?_
      refine ps_if_ne C (pc := 12) 22 dX4_image_12 (by decide) (fun hc => ?_) (fun hc => ?_)
      · have h := ps_iff hc h
        refine ps_aload_n C (pc := 22) dX4_image_22 0 rfl ?_
        refine pg_0_2 C (pc := 23) tw_208 dX4_image_23 ?_
        exact ps_sub [0] rfl (tX4_image_J26 C Z  h k)
      · have h := ps_ift hc h
        refine ps_aload_n C (pc := 15) dX4_image_15 0 rfl ?_
        refine pg_0_1 C (pc := 16) tw_207 dX4_image_16 ?_
        refine ps_goto C (pc := 19) 26 dX4_image_19 (by decide) ?_
        exact ps_sub [0] rfl (tX4_image_J26_1 C Z  h k)
    · have h := ps_iff hc h
      refine ps_iconst C (pc := 9) (v := 0) dX4_image_9 (by decide) ?_
      obtain rfl := Option.some.inj h
      exact k _ _ (Or.inl rfl) dX4_image_10
def rmX4_image : Room := { frames := 2, cells := 0, slots := 0, locals := 122 }
theorem mX4_image {l : Launch} {E : ps_E} {σ : ps_S} {a1 : Int32} {r : Int32 × ps_S}  (h : fX4_image a1 σ = some r) : ps_MI l yX4_image (ps_wm yX4_image cX4_image 3 (some .boolean)) rmX4_image [.ref (e_ad E 0), .int a1] E σ r.1 r.2 :=
  ps_metZ yX4_image rmX4_image 3 (own := "PartSums") r.1 (by decide +kernel) rfl (Nat.le_of_ble_eq_true rfl) rfl (fun z e1 e2 e3 e4 e5 C k => by
    subst e5
    exact tX4_image C (ps_Zof e1 e3 e4)  h k)
theorem hdX4_image : yX4_image.cls ≠ "java/lang/invoke/MethodHandle" ∧ yX4_image.cls ≠ "java/lang/invoke/VarHandle" ∧ (parseMethodDescriptor yX4_image.desc).map (fun d => d.parameters.length) = some 1 := by decide +kernel
def fX4_restore_J26 (σ : ps_S) : Option (Int32 × ps_S) :=
  (if (σ.1 15 2) = 0 then some ((0 : Int32), σ)
  else ((fX1_copyFrom_1_15 σ).bind fun q1 =>
  ((fX0_forget q1).bind fun q2 =>
  some ((1 : Int32), q2))))
set_option maxHeartbeats 4000000 in
set_option maxRecDepth 100000 in
theorem tX4_restore_J26 {z : ps_X} (C : ps_C z cX4_restore 3 "PartSums") (Z : ps_Z z 2 122) {σ : ps_S}  {r : Int32 × ps_S} (h : fX4_restore_J26 σ = some r) (k : ps_KZ z 3 cX4_restore r.1 r.2) : ps_at z 3 26 [(0, .ref (z_ad z 0))] [.ref (z_ad z 15)] σ := by
  unfold fX4_restore_J26 at h
  refine ps_astore_n C (pc := 26) (lv' := [(2, .ref (z_ad z 15)), (0, .ref (z_ad z 0))]) dX4_restore_26 (by decide) rfl ?_
  refine ps_aload_n C (pc := 27) dX4_restore_27 0 rfl ?_
  refine pg_15_2 C (pc := 28) tw_103 dX4_restore_28 ?_
  refine ps_if_ne C (pc := 31) 36 dX4_restore_31 (by decide) (fun hc => ?_) (fun hc => ?_)
  · have h := ps_iff hc h
    refine ps_aload_n C (pc := 36) dX4_restore_36 1 rfl ?_
    refine pg_0_0 C (pc := 37) tw_206 dX4_restore_37 ?_
    refine ps_aload_n C (pc := 40) dX4_restore_40 0 rfl ?_
    obtain ⟨q1, hq1, h⟩ := ps_bd h
    refine ps_callVV C Z (pc := 41) (As := [.ref (z_ad z 15)]) (k0 := 1) (mX1_copyFrom_1_15  hq1) (Cn := "PartSums$Ground") rfl tw_685 tw_686 tw_687 tw_66 tw_688 hdX1_copyFrom rfl rfl ⟨by decide, by decide⟩ (by decide) ps_o1 rfl rfl (Nat.le_of_ble_eq_true rfl) dX4_restore_41 rfl ?_
    refine ps_aload_n C (pc := 44) dX4_restore_44 1 rfl ?_
    refine pg_0_3 C (pc := 45) tw_209 dX4_restore_45 ?_
    obtain ⟨q2, hq2, h⟩ := ps_bd h
    refine ps_callVV C Z (pc := 48) (As := []) (k0 := 22) (mX0_forget  hq2) (Cn := "PartSums$Acts") rfl tw_374 tw_375 tw_376 tw_67 tw_377 hdX0_forget rfl rfl ⟨by decide, by decide⟩ (by decide) ps_o22 rfl rfl (Nat.le_of_ble_eq_true rfl) dX4_restore_48 rfl ?_
    refine ps_iconst C (pc := 51) (v := 1) dX4_restore_51 (by decide) ?_
    obtain rfl := Option.some.inj h
    exact k _ _ (Or.inr rfl) dX4_restore_52
  · have h := ps_ift hc h
    refine ps_iconst C (pc := 34) (v := 0) dX4_restore_34 (by decide) ?_
    obtain rfl := Option.some.inj h
    exact k _ _ (Or.inl rfl) dX4_restore_35
def fX4_restore_J26_1 (σ : ps_S) : Option (Int32 × ps_S) :=
  (if (σ.1 8 2) = 0 then some ((0 : Int32), σ)
  else ((fX1_copyFrom_1_8 σ).bind fun q3 =>
  ((fX0_forget q3).bind fun q4 =>
  some ((1 : Int32), q4))))
set_option maxHeartbeats 4000000 in
set_option maxRecDepth 100000 in
theorem tX4_restore_J26_1 {z : ps_X} (C : ps_C z cX4_restore 3 "PartSums") (Z : ps_Z z 2 122) {σ : ps_S}  {r : Int32 × ps_S} (h : fX4_restore_J26_1 σ = some r) (k : ps_KZ z 3 cX4_restore r.1 r.2) : ps_at z 3 26 [(0, .ref (z_ad z 0))] [.ref (z_ad z 8)] σ := by
  unfold fX4_restore_J26_1 at h
  refine ps_astore_n C (pc := 26) (lv' := [(2, .ref (z_ad z 8)), (0, .ref (z_ad z 0))]) dX4_restore_26 (by decide) rfl ?_
  refine ps_aload_n C (pc := 27) dX4_restore_27 0 rfl ?_
  refine pg_8_2 C (pc := 28) tw_103 dX4_restore_28 ?_
  refine ps_if_ne C (pc := 31) 36 dX4_restore_31 (by decide) (fun hc => ?_) (fun hc => ?_)
  · have h := ps_iff hc h
    refine ps_aload_n C (pc := 36) dX4_restore_36 1 rfl ?_
    refine pg_0_0 C (pc := 37) tw_206 dX4_restore_37 ?_
    refine ps_aload_n C (pc := 40) dX4_restore_40 0 rfl ?_
    obtain ⟨q3, hq3, h⟩ := ps_bd h
    refine ps_callVV C Z (pc := 41) (As := [.ref (z_ad z 8)]) (k0 := 1) (mX1_copyFrom_1_8  hq3) (Cn := "PartSums$Ground") rfl tw_685 tw_686 tw_687 tw_66 tw_688 hdX1_copyFrom rfl rfl ⟨by decide, by decide⟩ (by decide) ps_o1 rfl rfl (Nat.le_of_ble_eq_true rfl) dX4_restore_41 rfl ?_
    refine ps_aload_n C (pc := 44) dX4_restore_44 1 rfl ?_
    refine pg_0_3 C (pc := 45) tw_209 dX4_restore_45 ?_
    obtain ⟨q4, hq4, h⟩ := ps_bd h
    refine ps_callVV C Z (pc := 48) (As := []) (k0 := 22) (mX0_forget  hq4) (Cn := "PartSums$Acts") rfl tw_374 tw_375 tw_376 tw_67 tw_377 hdX0_forget rfl rfl ⟨by decide, by decide⟩ (by decide) ps_o22 rfl rfl (Nat.le_of_ble_eq_true rfl) dX4_restore_48 rfl ?_
    refine ps_iconst C (pc := 51) (v := 1) dX4_restore_51 (by decide) ?_
    obtain rfl := Option.some.inj h
    exact k _ _ (Or.inr rfl) dX4_restore_52
  · have h := ps_ift hc h
    refine ps_iconst C (pc := 34) (v := 0) dX4_restore_34 (by decide) ?_
    obtain rfl := Option.some.inj h
    exact k _ _ (Or.inl rfl) dX4_restore_35
def fX4_restore (a1 : Int32) (σ : ps_S) : Option (Int32 × ps_S) :=
  (if a1 < 0 then some ((0 : Int32), σ)
  else (if a1 ≤ (1 : Int32) then (if a1 = 0 then fX4_restore_J26_1 σ
  else fX4_restore_J26 σ)
  else some ((0 : Int32), σ)))
set_option maxHeartbeats 4000000 in
set_option maxRecDepth 100000 in
theorem tX4_restore {z : ps_X} (C : ps_C z cX4_restore 3 "PartSums") (Z : ps_Z z 2 122) {a1 : Int32} {σ : ps_S}  {r : Int32 × ps_S} (h : fX4_restore a1 σ = some r) (k : ps_KZ z 3 cX4_restore r.1 r.2) : ps_at z 3 0 [(0, .ref (z_ad z 0)), (1, .int a1)] [] σ := by
  unfold fX4_restore at h
  refine ps_iload_n C (pc := 0) dX4_restore_0 1 rfl ?_
  refine ps_if_lt C (pc := 1) 9 dX4_restore_1 (by decide) (fun hc => ?_) (fun hc => ?_)
  · have h := ps_ift hc h
    refine ps_iconst C (pc := 9) (v := 0) dX4_restore_9 (by decide) ?_
    obtain rfl := Option.some.inj h
    exact k _ _ (Or.inl rfl) dX4_restore_10
  · have h := ps_iff hc h
    refine ps_iload_n C (pc := 4) dX4_restore_4 1 rfl ?_
    refine ps_iconst C (pc := 5) (v := 1) dX4_restore_5 (by decide) ?_
    refine ps_icmp_le C (pc := 6) 11 dX4_restore_6 (by decide) (fun hc => ?_) (fun hc => ?_)
    · have h := ps_ift hc h
      refine ps_iload_n C (pc := 11) dX4_restore_11 1 rfl ?_
      refine ps_if_ne C (pc := 12) 22 dX4_restore_12 (by decide) (fun hc => ?_) (fun hc => ?_)
      · have h := ps_iff hc h
        refine ps_aload_n C (pc := 22) dX4_restore_22 0 rfl ?_
        refine pg_0_2 C (pc := 23) tw_208 dX4_restore_23 ?_
        exact ps_sub [0] rfl (tX4_restore_J26 C Z  h k)
      · have h := ps_ift hc h
        refine ps_aload_n C (pc := 15) dX4_restore_15 0 rfl ?_
        refine pg_0_1 C (pc := 16) tw_207 dX4_restore_16 ?_
        refine ps_goto C (pc := 19) 26 dX4_restore_19 (by decide) ?_
        exact ps_sub [0] rfl (tX4_restore_J26_1 C Z  h k)
    · have h := ps_iff hc h
      refine ps_iconst C (pc := 9) (v := 0) dX4_restore_9 (by decide) ?_
      obtain rfl := Option.some.inj h
      exact k _ _ (Or.inl rfl) dX4_restore_10
def rmX4_restore : Room := { frames := 2, cells := 0, slots := 0, locals := 122 }
theorem mX4_restore {l : Launch} {E : ps_E} {σ : ps_S} {a1 : Int32} {r : Int32 × ps_S}  (h : fX4_restore a1 σ = some r) : ps_MI l yX4_restore (ps_wm yX4_restore cX4_restore 3 (some .boolean)) rmX4_restore [.ref (e_ad E 0), .int a1] E σ r.1 r.2 :=
  ps_metZ yX4_restore rmX4_restore 3 (own := "PartSums") r.1 (by decide +kernel) rfl (Nat.le_of_ble_eq_true rfl) rfl (fun z e1 e2 e3 e4 e5 C k => by
    subst e5
    exact tX4_restore C (ps_Zof e1 e3 e4)  h k)
theorem hdX4_restore : yX4_restore.cls ≠ "java/lang/invoke/MethodHandle" ∧ yX4_restore.cls ≠ "java/lang/invoke/VarHandle" ∧ (parseMethodDescriptor yX4_restore.desc).map (fun d => d.parameters.length) = some 1 := by decide +kernel
