def fX5_makes (a0 : Int32) (a1 : Int32) (a2 : Int32) : Option (Int32) :=
  (if a2 = (0 : Int32) then (if (a0 &&& a1) = 0 then some (a0 ||| a1)
  else some (-1 : Int32))
  else (if a2 = (1 : Int32) then some (a0 ||| a1)
  else (if a2 = (2 : Int32) then some (a0 &&& a1)
  else (if a2 = (3 : Int32) then some (a0 ^^^ a1)
  else (if a0 = a1 then some a0
  else some (-1 : Int32))))))
set_option maxHeartbeats 4000000 in
set_option maxRecDepth 100000 in
theorem tX5_makes {z : ps_X} (C : ps_C z cX5_makes 3 "PartSumsModel") (Z : ps_Z z 0 0) {a0 : Int32} {a1 : Int32} {a2 : Int32}  {σ : ps_S} {r : Int32} (h : fX5_makes a0 a1 a2 = some r) (k : ps_KI z 3 cX5_makes r σ) : ps_at z 3 0 [(0, .int a0), (1, .int a1), (2, .int a2)] [] σ := by
  unfold fX5_makes at h
  refine ps_iload_n C (pc := 0) dX5_makes_0 2 rfl ?_
  by_cases hc1_0 : a2 = (0 : Int32)
  · have h := ps_ift hc1_0 h
    refine ps_tsw C (pc := 1) 0 hc1_0 32 dX5_makes_1 (by decide) (by decide) (by rfl) (by decide) ?_
    refine ps_iload_n C (pc := 32) dX5_makes_32 0 rfl ?_
    refine ps_iload_n C (pc := 33) dX5_makes_33 1 rfl ?_
    refine ps_iand C (pc := 34) dX5_makes_34 ?_
    refine ps_if_ne C (pc := 35) 44 dX5_makes_35 (by decide) (fun hc => ?_) (fun hc => ?_)
    · have h := ps_iff hc h
      refine ps_iconst C (pc := 44) (v := -1) dX5_makes_44 (by decide) ?_
      obtain rfl := Option.some.inj h
      exact k _ _ dX5_makes_45
    · have h := ps_ift hc h
      refine ps_iload_n C (pc := 38) dX5_makes_38 0 rfl ?_
      refine ps_iload_n C (pc := 39) dX5_makes_39 1 rfl ?_
      refine ps_ior C (pc := 40) dX5_makes_40 ?_
      refine ps_goto C (pc := 41) 45 dX5_makes_41 (by decide) ?_
      obtain rfl := Option.some.inj h
      exact k _ _ dX5_makes_45
  replace h := ps_iff hc1_0 h
  by_cases hc1_1 : a2 = (1 : Int32)
  · have h := ps_ift hc1_1 h
    refine ps_tsw C (pc := 1) 1 hc1_1 46 dX5_makes_1 (by decide) (by decide) (by rfl) (by decide) ?_
    refine ps_iload_n C (pc := 46) dX5_makes_46 0 rfl ?_
    refine ps_iload_n C (pc := 47) dX5_makes_47 1 rfl ?_
    refine ps_ior C (pc := 48) dX5_makes_48 ?_
    obtain rfl := Option.some.inj h
    exact k _ _ dX5_makes_49
  replace h := ps_iff hc1_1 h
  by_cases hc1_2 : a2 = (2 : Int32)
  · have h := ps_ift hc1_2 h
    refine ps_tsw C (pc := 1) 2 hc1_2 50 dX5_makes_1 (by decide) (by decide) (by rfl) (by decide) ?_
    refine ps_iload_n C (pc := 50) dX5_makes_50 0 rfl ?_
    refine ps_iload_n C (pc := 51) dX5_makes_51 1 rfl ?_
    refine ps_iand C (pc := 52) dX5_makes_52 ?_
    obtain rfl := Option.some.inj h
    exact k _ _ dX5_makes_53
  replace h := ps_iff hc1_2 h
  by_cases hc1_3 : a2 = (3 : Int32)
  · have h := ps_ift hc1_3 h
    refine ps_tsw C (pc := 1) 3 hc1_3 54 dX5_makes_1 (by decide) (by decide) (by rfl) (by decide) ?_
    refine ps_iload_n C (pc := 54) dX5_makes_54 0 rfl ?_
    refine ps_iload_n C (pc := 55) dX5_makes_55 1 rfl ?_
    refine ps_ixor C (pc := 56) dX5_makes_56 ?_
    obtain rfl := Option.some.inj h
    exact k _ _ dX5_makes_57
  replace h := ps_iff hc1_3 h
  refine ps_tsd C (pc := 1) 58 dX5_makes_1 (by have q0 := ps_ni hc1_0 (n := 0) (by decide); have q1 := ps_ni hc1_1 (n := 1) (by decide); have q2 := ps_ni hc1_2 (n := 2) (by decide); have q3 := ps_ni hc1_3 (n := 3) (by decide); omega) (by decide) ?_
  refine ps_iload_n C (pc := 58) dX5_makes_58 0 rfl ?_
  refine ps_iload_n C (pc := 59) dX5_makes_59 1 rfl ?_
  refine ps_icmp_ne C (pc := 60) 67 dX5_makes_60 (by decide) (fun hc => ?_) (fun hc => ?_)
  · have h := ps_iff hc h
    refine ps_iconst C (pc := 67) (v := -1) dX5_makes_67 (by decide) ?_
    obtain rfl := Option.some.inj h
    exact k _ _ dX5_makes_68
  · have h := ps_ift hc h
    refine ps_iload_n C (pc := 63) dX5_makes_63 0 rfl ?_
    refine ps_goto C (pc := 64) 68 dX5_makes_64 (by decide) ?_
    obtain rfl := Option.some.inj h
    exact k _ _ dX5_makes_68
def rmX5_makes : Room := { frames := 0, cells := 0, slots := 0, locals := 0 }
theorem mX5_makes {l : Launch} {E : ps_E} {σ : ps_S} {a0 : Int32} {a1 : Int32} {a2 : Int32} {r : Int32}  (h : fX5_makes a0 a1 a2 = some r) : ps_MI l yX5_makes (ps_wm yX5_makes cX5_makes 3 (some .int)) rmX5_makes [.int a0, .int a1, .int a2] E σ r σ :=
  ps_metI yX5_makes rmX5_makes 3 (own := "PartSumsModel") r (by decide +kernel) rfl (Nat.le_of_ble_eq_true rfl) rfl (fun z e1 e2 e3 e4 e5 C k => by
    subst e5
    exact tX5_makes C (ps_Zof e1 e3 e4)  h k)
theorem hdX5_makes : yX5_makes.cls ≠ "java/lang/invoke/MethodHandle" ∧ yX5_makes.cls ≠ "java/lang/invoke/VarHandle" ∧ (parseMethodDescriptor yX5_makes.desc).map (fun d => d.parameters.length) = some 3 := by decide +kernel
def fX5_product (a1 : Int32) (a2 : Int32) (a3 : Int32) : Option (Int32) :=
  (if a3 = (5 : Int32) then ((fX5_rest (((0 : Int64) + (Int32.toInt64 a1)) + (Int32.toInt64 a2))).bind fun q1 =>
  some q1)
  else (if a3 = (6 : Int32) then ((fX5_rest (((0 : Int64) + (Int32.toInt64 a1)) - (Int32.toInt64 a2))).bind fun q2 =>
  some q2)
  else ((fX5_rest ((Int32.toInt64 a1) * (Int32.toInt64 a2))).bind fun q3 =>
  some q3)))
set_option maxHeartbeats 4000000 in
set_option maxRecDepth 100000 in
theorem tX5_product {z : ps_X} (C : ps_C z cX5_product 4 "PartSumsModel") (Z : ps_Z z 1 23) {a1 : Int32} {a2 : Int32} {a3 : Int32}  {σ : ps_S} {r : Int32} (h : fX5_product a1 a2 a3 = some r) (k : ps_KI z 4 cX5_product r σ) : ps_at z 4 0 [(0, .ref (z_ad z 45)), (1, .int a1), (2, .int a2), (3, .int a3)] [] σ := by
  unfold fX5_product at h
  refine ps_iload_n C (pc := 0) dX5_product_0 3 rfl ?_
  by_cases hc1_0 : a3 = (5 : Int32)
  · have h := ps_ift hc1_0 h
    refine ps_lsw C (pc := 1) 5 hc1_0 28 dX5_product_1 (by decide) (by rfl) (by decide) ?_
    refine ps_lconst C (pc := 28) (v := 0) dX5_product_28 (by decide) ?_
    refine ps_iload_n C (pc := 29) dX5_product_29 1 rfl ?_
    refine ps_i2l C (pc := 30) dX5_product_30 ?_
    refine ps_ladd C (pc := 31) dX5_product_31 ?_
    refine ps_iload_n C (pc := 32) dX5_product_32 2 rfl ?_
    refine ps_i2l C (pc := 33) dX5_product_33 ?_
    refine ps_ladd C (pc := 34) dX5_product_34 ?_
    obtain ⟨q1, hq1, h⟩ := ps_bd h
    refine ps_callSI C Z (pc := 35) (As := [.long (((0 : Int64) + (Int32.toInt64 a1)) + (Int32.toInt64 a2))]) (mX5_rest  hq1) tw_998 tw_999 tw_70 tw_1000 hdX5_rest rfl rfl ⟨by decide, by decide⟩ rfl (Nat.le_of_ble_eq_true rfl) dX5_product_35 rfl ?_
    obtain rfl := Option.some.inj h
    exact k _ _ dX5_product_38
  replace h := ps_iff hc1_0 h
  by_cases hc1_1 : a3 = (6 : Int32)
  · have h := ps_ift hc1_1 h
    refine ps_lsw C (pc := 1) 6 hc1_1 39 dX5_product_1 (by decide) (by rfl) (by decide) ?_
    refine ps_lconst C (pc := 39) (v := 0) dX5_product_39 (by decide) ?_
    refine ps_iload_n C (pc := 40) dX5_product_40 1 rfl ?_
    refine ps_i2l C (pc := 41) dX5_product_41 ?_
    refine ps_ladd C (pc := 42) dX5_product_42 ?_
    refine ps_iload_n C (pc := 43) dX5_product_43 2 rfl ?_
    refine ps_i2l C (pc := 44) dX5_product_44 ?_
    refine ps_lsub C (pc := 45) dX5_product_45 ?_
    obtain ⟨q2, hq2, h⟩ := ps_bd h
    refine ps_callSI C Z (pc := 46) (As := [.long (((0 : Int64) + (Int32.toInt64 a1)) - (Int32.toInt64 a2))]) (mX5_rest  hq2) tw_998 tw_999 tw_70 tw_1000 hdX5_rest rfl rfl ⟨by decide, by decide⟩ rfl (Nat.le_of_ble_eq_true rfl) dX5_product_46 rfl ?_
    obtain rfl := Option.some.inj h
    exact k _ _ dX5_product_49
  replace h := ps_iff hc1_1 h
  refine ps_lsd C (pc := 1) 50 dX5_product_1 (by decide) (by have q0 := ps_ni hc1_0 (n := 5) (by decide); have q1 := ps_ni hc1_1 (n := 6) (by decide); simp [Op.lookupswitch.offset]; omega) (by decide) ?_
  refine ps_iload_n C (pc := 50) dX5_product_50 1 rfl ?_
  refine ps_i2l C (pc := 51) dX5_product_51 ?_
  refine ps_iload_n C (pc := 52) dX5_product_52 2 rfl ?_
  refine ps_i2l C (pc := 53) dX5_product_53 ?_
  refine ps_lmul C (pc := 54) dX5_product_54 ?_
  obtain ⟨q3, hq3, h⟩ := ps_bd h
  refine ps_callSI C Z (pc := 55) (As := [.long ((Int32.toInt64 a1) * (Int32.toInt64 a2))]) (mX5_rest  hq3) tw_998 tw_999 tw_70 tw_1000 hdX5_rest rfl rfl ⟨by decide, by decide⟩ rfl (Nat.le_of_ble_eq_true rfl) dX5_product_55 rfl ?_
  obtain rfl := Option.some.inj h
  exact k _ _ dX5_product_58
def rmX5_product : Room := { frames := 1, cells := 0, slots := 0, locals := 23 }
theorem mX5_product {l : Launch} {E : ps_E} {σ : ps_S} {a1 : Int32} {a2 : Int32} {a3 : Int32} {r : Int32}  (h : fX5_product a1 a2 a3 = some r) : ps_MI l yX5_product (ps_wm yX5_product cX5_product 4 (some .int)) rmX5_product [.ref (e_ad E 45), .int a1, .int a2, .int a3] E σ r σ :=
  ps_metI yX5_product rmX5_product 4 (own := "PartSumsModel") r (by decide +kernel) rfl (Nat.le_of_ble_eq_true rfl) rfl (fun z e1 e2 e3 e4 e5 C k => by
    subst e5
    exact tX5_product C (ps_Zof e1 e3 e4)  h k)
theorem hdX5_product : yX5_product.cls ≠ "java/lang/invoke/MethodHandle" ∧ yX5_product.cls ≠ "java/lang/invoke/VarHandle" ∧ (parseMethodDescriptor yX5_product.desc).map (fun d => d.parameters.length) = some 3 := by decide +kernel
def pX5_times_S45 (z : ps_X) (a1 : Int32) (a2 : Int32) (a3 : Int32) (a4 : Int32) (s : Int32 × ps_S) : Prop := ps_at z 8 45 [(0, .ref (z_ad z 45)), (1, .int a1), (2, .int a2), (3, .int a3), (4, .int a4), (5, .int s.1)] [] s.2
def qX5_times_S45 (z : ps_X) (a1 : Int32) (a2 : Int32) (a3 : Int32) (a4 : Int32) (x : (ps_S)) : Prop := match x with | y => ps_at z 8 68 [(0, .ref (z_ad z 45)), (1, .int a1), (2, .int a2), (3, .int a3), (4, .int a4)] [] y
def fX5_times_S45 (a1 : Int32) (a2 : Int32) (a3 : Int32) (a4 : Int32) (a5 : Int32) (σ : ps_S) : Option ((Int32 × ps_S) ⊕ ((ps_S))) :=
  ((fX5_all σ).bind fun q6 =>
  (if q6 < a5 then some (.inr σ)
  else (ps_ck a5 256 ((ps_let (ps_ui σ 52 (Int32.toNatClampNeg a5) (0 : Int32)) fun σ8 =>
  (ps_let (a5 + (1 : Int32)) fun x9 =>
  some (.inl (x9, σ8))))))))
set_option maxHeartbeats 4000000 in
set_option maxRecDepth 100000 in
theorem tX5_times_S45 {z : ps_X} (C : ps_C z cX5_times 8 "PartSumsModel") (Z : ps_Z z 3 68) (a1 : Int32) (a2 : Int32) (a3 : Int32) (a4 : Int32)  (s : Int32 × ps_S) (r : (Int32 × ps_S) ⊕ ((ps_S))) (h : fX5_times_S45 a1 a2 a3 a4 s.1 s.2 = some r) (k : ps_k (pX5_times_S45 z a1 a2 a3 a4) (qX5_times_S45 z a1 a2 a3 a4) r) : pX5_times_S45 z a1 a2 a3 a4 s := by
  obtain ⟨a5, σ⟩ := s
  unfold fX5_times_S45 at h
  unfold pX5_times_S45
  refine ps_iload C (pc := 45) dX5_times_45 5 rfl ?_
  refine ps_aload_n C (pc := 47) dX5_times_47 0 rfl ?_
  obtain ⟨q6, hq6, h⟩ := ps_bd h
  refine ps_callVI C Z (pc := 48) (As := []) (k0 := 45) (mX5_all  hq6) (Cn := "PartSumsModel") rfl tw_954 tw_956 tw_38 tw_70 tw_957 hdX5_all rfl rfl ⟨by decide, by decide⟩ (by decide) ps_o45 rfl rfl (Nat.le_of_ble_eq_true rfl) dX5_times_48 rfl ?_
  refine ps_icmp_gt C (pc := 51) 68 dX5_times_51 (by decide) (fun hc => ?_) (fun hc => ?_)
  · have h := ps_ift hc h
    obtain rfl := Option.some.inj h
    exact ps_sub [0, 1, 2, 3, 4] rfl k
  · have h := ps_iff hc h
    refine ps_aload_n C (pc := 54) dX5_times_54 0 rfl ?_
    refine pg_45_16 C (pc := 55) tw_812 dX5_times_55 ?_
    refine ps_iload C (pc := 58) dX5_times_58 5 rfl ?_
    refine ps_iconst C (pc := 60) (v := 0) dX5_times_60 (by decide) ?_
    obtain ⟨hi7, h⟩ := ps_ck_s h
    refine ps_iastL C (pc := 61) 52 rfl rfl hi7 dX5_times_61 h (fun σ8 h => ?_)
    refine ps_iincL C (pc := 62) (zz := 1) (lw := fun x9 => [(5, .int x9), (0, .ref (z_ad z 45)), (1, .int a1), (2, .int a2), (3, .int a3), (4, .int a4)]) dX5_times_62 5 rfl (by decide) (by decide) (fun _ => rfl) h (fun x9 h => ?_)
    refine ps_goto C (pc := 65) 45 dX5_times_65 (by decide) ?_
    obtain rfl := Option.some.inj h
    exact ps_sub [1, 2, 3, 4, 5, 0] rfl k
def pX5_times_S71 (z : ps_X) (a1 : Int32) (a2 : Int32) (a3 : Int32) (a4 : Int32) (s : Int32 × ps_S) : Prop := ps_at z 8 71 [(0, .ref (z_ad z 45)), (1, .int a1), (2, .int a2), (3, .int a3), (4, .int a4), (5, .int s.1)] [] s.2
def qX5_times_S71 (z : ps_X) (a1 : Int32) (a2 : Int32) (a3 : Int32) (a4 : Int32) (x : (ps_S)) : Prop := match x with | y => ps_at z 8 161 [(0, .ref (z_ad z 45)), (4, .int a4)] [] y
def pX5_times_S83 (z : ps_X) (a1 : Int32) (a2 : Int32) (a3 : Int32) (a4 : Int32) (a5 : Int32) (s : Int32 × ps_S) : Prop := ps_at z 8 83 [(0, .ref (z_ad z 45)), (1, .int a1), (2, .int a2), (3, .int a3), (4, .int a4), (5, .int a5), (6, .int s.1)] [] s.2
def qX5_times_S83 (z : ps_X) (a1 : Int32) (a2 : Int32) (a3 : Int32) (a4 : Int32) (a5 : Int32) (x : (ps_S)) : Prop := match x with | y => ps_at z 8 155 [(0, .ref (z_ad z 45)), (1, .int a1), (2, .int a2), (3, .int a3), (4, .int a4), (5, .int a5)] [] y
def fX5_times_J149 (a1 : Int32) (a2 : Int32) (a3 : Int32) (a4 : Int32) (a5 : Int32) (a6 : Int32) (σ : ps_S) : Option ((Int32 × ps_S) ⊕ ((ps_S))) :=
  (ps_let (a6 + (1 : Int32)) fun x14 =>
  some (.inl (x14, σ)))
set_option maxHeartbeats 4000000 in
set_option maxRecDepth 100000 in
theorem tX5_times_J149 {z : ps_X} (C : ps_C z cX5_times 8 "PartSumsModel") (Z : ps_Z z 3 68) {a1 : Int32} {a2 : Int32} {a3 : Int32} {a4 : Int32} {a5 : Int32} {a6 : Int32} {σ : ps_S}  {r : (Int32 × ps_S) ⊕ ((ps_S))} (h : fX5_times_J149 a1 a2 a3 a4 a5 a6 σ = some r) (k : ps_k (pX5_times_S83 z a1 a2 a3 a4 a5) (qX5_times_S83 z a1 a2 a3 a4 a5) r) : ps_at z 8 149 [(0, .ref (z_ad z 45)), (1, .int a1), (2, .int a2), (3, .int a3), (4, .int a4), (5, .int a5), (6, .int a6)] [] σ := by
  unfold fX5_times_J149 at h
  refine ps_iincL C (pc := 149) (zz := 1) (lw := fun x14 => [(6, .int x14), (0, .ref (z_ad z 45)), (1, .int a1), (2, .int a2), (3, .int a3), (4, .int a4), (5, .int a5)]) dX5_times_149 6 rfl (by decide) (by decide) (fun _ => rfl) h (fun x14 h => ?_)
  refine ps_goto C (pc := 152) 83 dX5_times_152 (by decide) ?_
  obtain rfl := Option.some.inj h
  exact ps_sub [1, 2, 3, 4, 5, 6, 0] rfl k
def fX5_times_S83 (a1 : Int32) (a2 : Int32) (a3 : Int32) (a4 : Int32) (a5 : Int32) (a6 : Int32) (σ : ps_S) : Option ((Int32 × ps_S) ⊕ ((ps_S))) :=
  ((fX5_all σ).bind fun q12 =>
  (if q12 < a6 then some (.inr σ)
  else ((fX5_makes a5 a6 a3).bind fun q13 =>
  (if q13 = (-1 : Int32) then fX5_times_J149 a1 a2 a3 a4 a5 a6 σ
  else (ps_ck q13 256 (((fX5_numberOf a1 a5 σ).bind fun q16 =>
  ((fX5_numberOf a2 a6 σ).bind fun q17 =>
  ((fX5_product q16 q17 a3).bind fun q18 =>
  ((fX5_rest (((0 : Int64) + (Int32.toInt64 (σ.1 52 (Int32.toNatClampNeg q13)))) + (Int32.toInt64 q18))).bind fun q19 =>
  (ps_ck q13 256 ((ps_let (ps_ui σ 52 (Int32.toNatClampNeg q13) q19) fun σ21 =>
  fX5_times_J149 a1 a2 a3 a4 a5 a6 σ21)))))))))))))
set_option maxHeartbeats 4000000 in
set_option maxRecDepth 100000 in
theorem tX5_times_S83 {z : ps_X} (C : ps_C z cX5_times 8 "PartSumsModel") (Z : ps_Z z 3 68) (a1 : Int32) (a2 : Int32) (a3 : Int32) (a4 : Int32) (a5 : Int32)  (s : Int32 × ps_S) (r : (Int32 × ps_S) ⊕ ((ps_S))) (h : fX5_times_S83 a1 a2 a3 a4 a5 s.1 s.2 = some r) (k : ps_k (pX5_times_S83 z a1 a2 a3 a4 a5) (qX5_times_S83 z a1 a2 a3 a4 a5) r) : pX5_times_S83 z a1 a2 a3 a4 a5 s := by
  obtain ⟨a6, σ⟩ := s
  unfold fX5_times_S83 at h
  unfold pX5_times_S83
  refine ps_iload C (pc := 83) dX5_times_83 6 rfl ?_
  refine ps_aload_n C (pc := 85) dX5_times_85 0 rfl ?_
  obtain ⟨q12, hq12, h⟩ := ps_bd h
  refine ps_callVI C Z (pc := 86) (As := []) (k0 := 45) (mX5_all  hq12) (Cn := "PartSumsModel") rfl tw_954 tw_956 tw_38 tw_70 tw_957 hdX5_all rfl rfl ⟨by decide, by decide⟩ (by decide) ps_o45 rfl rfl (Nat.le_of_ble_eq_true rfl) dX5_times_86 rfl ?_
  refine ps_icmp_gt C (pc := 89) 155 dX5_times_89 (by decide) (fun hc => ?_) (fun hc => ?_)
  · have h := ps_ift hc h
    obtain rfl := Option.some.inj h
    exact ps_sub [0, 1, 2, 3, 4, 5] rfl k
  · have h := ps_iff hc h
    refine ps_iload C (pc := 92) dX5_times_92 5 rfl ?_
    refine ps_iload C (pc := 94) dX5_times_94 6 rfl ?_
    refine ps_iload_n C (pc := 96) dX5_times_96 3 rfl ?_
    obtain ⟨q13, hq13, h⟩ := ps_bd h
    refine ps_callSI C Z (pc := 97) (As := [.int a5, .int a6, .int a3]) (mX5_makes  hq13) tw_1042 tw_1043 tw_70 tw_1044 hdX5_makes rfl rfl ⟨by decide, by decide⟩ rfl (Nat.le_of_ble_eq_true rfl) dX5_times_97 rfl ?_
    refine ps_istore C (pc := 100) (lv' := [(7, .int q13), (0, .ref (z_ad z 45)), (1, .int a1), (2, .int a2), (3, .int a3), (4, .int a4), (5, .int a5), (6, .int a6)]) dX5_times_100 (by decide) rfl ?_
    refine ps_iload C (pc := 102) dX5_times_102 0 rfl ?_
    refine ps_iconst C (pc := 104) (v := -1) dX5_times_104 (by decide) ?_
    refine ps_icmp_eq C (pc := 105) 149 dX5_times_105 (by decide) (fun hc => ?_) (fun hc => ?_)
    · have h := ps_ift hc h
      exact ps_sub [1, 2, 3, 4, 5, 6, 7] rfl (tX5_times_J149 C Z  h k)
    · have h := ps_iff hc h
      refine ps_aload_n C (pc := 108) dX5_times_108 1 rfl ?_
      refine pg_45_16 C (pc := 109) tw_812 dX5_times_109 ?_
      refine ps_iload C (pc := 112) dX5_times_112 0 rfl ?_
      refine ps_lconst C (pc := 114) (v := 0) dX5_times_114 (by decide) ?_
      refine ps_aload_n C (pc := 115) dX5_times_115 1 rfl ?_
      refine pg_45_16 C (pc := 116) tw_812 dX5_times_116 ?_
      refine ps_iload C (pc := 119) dX5_times_119 0 rfl ?_
      obtain ⟨hi15, h⟩ := ps_ck_s h
      refine ps_iald C (pc := 121) 52 rfl rfl hi15 dX5_times_121 ?_
      refine ps_i2l C (pc := 122) dX5_times_122 ?_
      refine ps_ladd C (pc := 123) dX5_times_123 ?_
      refine ps_aload_n C (pc := 124) dX5_times_124 1 rfl ?_
      refine ps_aload_n C (pc := 125) dX5_times_125 1 rfl ?_
      refine ps_iload_n C (pc := 126) dX5_times_126 2 rfl ?_
      refine ps_iload C (pc := 127) dX5_times_127 6 rfl ?_
      obtain ⟨q16, hq16, h⟩ := ps_bd h
      refine ps_callVI C Z (pc := 129) (As := [.int a1, .int a5]) (k0 := 45) (mX5_numberOf  hq16) (Cn := "PartSumsModel") rfl tw_986 tw_988 tw_43 tw_70 tw_989 hdX5_numberOf rfl rfl ⟨by decide, by decide⟩ (by decide) ps_o45 rfl rfl (Nat.le_of_ble_eq_true rfl) dX5_times_129 rfl ?_
      refine ps_aload_n C (pc := 132) dX5_times_132 1 rfl ?_
      refine ps_iload_n C (pc := 133) dX5_times_133 3 rfl ?_
      refine ps_iload C (pc := 134) dX5_times_134 7 rfl ?_
      obtain ⟨q17, hq17, h⟩ := ps_bd h
      refine ps_callVI C Z (pc := 136) (As := [.int a2, .int a6]) (k0 := 45) (mX5_numberOf  hq17) (Cn := "PartSumsModel") rfl tw_986 tw_988 tw_43 tw_70 tw_989 hdX5_numberOf rfl rfl ⟨by decide, by decide⟩ (by decide) ps_o45 rfl rfl (Nat.le_of_ble_eq_true rfl) dX5_times_136 rfl ?_
      refine ps_iload_n C (pc := 139) dX5_times_139 4 rfl ?_
      obtain ⟨q18, hq18, h⟩ := ps_bd h
      refine ps_callVI C Z (pc := 140) (As := [.int q16, .int q17, .int a3]) (k0 := 45) (mX5_product  hq18) (Cn := "PartSumsModel") rfl tw_1045 tw_1047 tw_51 tw_70 tw_1048 hdX5_product rfl rfl ⟨by decide, by decide⟩ (by decide) ps_o45 rfl rfl (Nat.le_of_ble_eq_true rfl) dX5_times_140 rfl ?_
      refine ps_i2l C (pc := 143) dX5_times_143 ?_
      refine ps_ladd C (pc := 144) dX5_times_144 ?_
      obtain ⟨q19, hq19, h⟩ := ps_bd h
      refine ps_callSI C Z (pc := 145) (As := [.long (((0 : Int64) + (Int32.toInt64 (σ.1 52 (Int32.toNatClampNeg q13)))) + (Int32.toInt64 q18))]) (mX5_rest  hq19) tw_998 tw_999 tw_70 tw_1000 hdX5_rest rfl rfl ⟨by decide, by decide⟩ rfl (Nat.le_of_ble_eq_true rfl) dX5_times_145 rfl ?_
      obtain ⟨hi20, h⟩ := ps_ck_s h
      refine ps_iastL C (pc := 148) 52 rfl rfl hi20 dX5_times_148 h (fun σ21 h => ?_)
      exact ps_sub [1, 2, 3, 4, 5, 6, 7] rfl (tX5_times_J149 C Z  h k)
def fX5_times_S71 (a1 : Int32) (a2 : Int32) (a3 : Int32) (a4 : Int32) (a5 : Int32) (σ : ps_S) : Option ((Int32 × ps_S) ⊕ ((ps_S))) :=
  ((fX5_all σ).bind fun q11 =>
  (if q11 < a5 then some (.inr σ)
  else ((ps_lp (fun s => fX5_times_S83 a1 a2 a3 a4 a5 s.1 s.2) 100000 ((0 : Int32), σ)).bind fun e22 =>
  (ps_let (a5 + (1 : Int32)) fun x23 =>
  some (.inl (x23, e22))))))
set_option maxHeartbeats 4000000 in
set_option maxRecDepth 100000 in
theorem tX5_times_S71 {z : ps_X} (C : ps_C z cX5_times 8 "PartSumsModel") (Z : ps_Z z 3 68) (a1 : Int32) (a2 : Int32) (a3 : Int32) (a4 : Int32)  (s : Int32 × ps_S) (r : (Int32 × ps_S) ⊕ ((ps_S))) (h : fX5_times_S71 a1 a2 a3 a4 s.1 s.2 = some r) (k : ps_k (pX5_times_S71 z a1 a2 a3 a4) (qX5_times_S71 z a1 a2 a3 a4) r) : pX5_times_S71 z a1 a2 a3 a4 s := by
  obtain ⟨a5, σ⟩ := s
  unfold fX5_times_S71 at h
  unfold pX5_times_S71
  refine ps_iload C (pc := 71) dX5_times_71 5 rfl ?_
  refine ps_aload_n C (pc := 73) dX5_times_73 0 rfl ?_
  obtain ⟨q11, hq11, h⟩ := ps_bd h
  refine ps_callVI C Z (pc := 74) (As := []) (k0 := 45) (mX5_all  hq11) (Cn := "PartSumsModel") rfl tw_954 tw_956 tw_38 tw_70 tw_957 hdX5_all rfl rfl ⟨by decide, by decide⟩ (by decide) ps_o45 rfl rfl (Nat.le_of_ble_eq_true rfl) dX5_times_74 rfl ?_
  refine ps_icmp_gt C (pc := 77) 161 dX5_times_77 (by decide) (fun hc => ?_) (fun hc => ?_)
  · have h := ps_ift hc h
    obtain rfl := Option.some.inj h
    exact ps_sub [0, 4] rfl k
  · have h := ps_iff hc h
    refine ps_iconst C (pc := 80) (v := 0) dX5_times_80 (by decide) ?_
    refine ps_istore C (pc := 81) (lv' := [(6, .int (0 : Int32)), (0, .ref (z_ad z 45)), (1, .int a1), (2, .int a2), (3, .int a3), (4, .int a4), (5, .int a5)]) dX5_times_81 (by decide) rfl ?_
    obtain ⟨e22, he22, h⟩ := ps_bd h
    refine ps_sub [1, 2, 3, 4, 5, 6, 0] rfl ?_
    refine ps_loop (P := pX5_times_S83 z a1 a2 a3 a4 a5) (K := qX5_times_S83 z a1 a2 a3 a4 a5) (fun s r h k => tX5_times_S83 C Z a1 a2 a3 a4 a5  s r h k) _ _ _ he22 ?_
    unfold qX5_times_S83
    refine ps_iincL C (pc := 155) (zz := 1) (lw := fun x23 => [(5, .int x23), (0, .ref (z_ad z 45)), (1, .int a1), (2, .int a2), (3, .int a3), (4, .int a4)]) dX5_times_155 5 rfl (by decide) (by decide) (fun _ => rfl) h (fun x23 h => ?_)
    refine ps_goto C (pc := 158) 71 dX5_times_158 (by decide) ?_
    obtain rfl := Option.some.inj h
    exact ps_sub [1, 2, 3, 4, 5, 0] rfl k
def fX5_times (a1 : Int32) (a2 : Int32) (a3 : Int32) (a4 : Int32) (σ : ps_S) : Option (Int32 × ps_S) :=
  (ps_let (ps_ui σ 45 0 (0 : Int32)) fun σ1 =>
  ((fX5_isRow a1 σ1).bind fun q2 =>
  (if q2 = 0 then some ((-1 : Int32), σ1)
  else ((fX5_isRow a2 σ1).bind fun q3 =>
  (if q3 = 0 then some ((-1 : Int32), σ1)
  else ((fX5_isRow a4 σ1).bind fun q4 =>
  (if q4 = 0 then some ((-1 : Int32), σ1)
  else ((fX5_isIn a3 (0 : Int32) (6 : Int32)).bind fun q5 =>
  (if q5 = 0 then some ((-1 : Int32), σ1)
  else ((ps_lp (fun s => fX5_times_S45 a1 a2 a3 a4 s.1 s.2) 100000 ((0 : Int32), σ1)).bind fun e10 =>
  ((ps_lp (fun s => fX5_times_S71 a1 a2 a3 a4 s.1 s.2) 100000 ((0 : Int32), e10)).bind fun e24 =>
  ((fX5_all e24).bind fun q25 =>
  ((fX5_becomes a4 q25 e24).bind fun q26 =>
  some (q26.1, q26.2))))))))))))))
set_option maxHeartbeats 4000000 in
set_option maxRecDepth 100000 in
theorem tX5_times {z : ps_X} (C : ps_C z cX5_times 8 "PartSumsModel") (Z : ps_Z z 3 68) {a1 : Int32} {a2 : Int32} {a3 : Int32} {a4 : Int32} {σ : ps_S}  {r : Int32 × ps_S} (h : fX5_times a1 a2 a3 a4 σ = some r) (k : ps_KI z 8 cX5_times r.1 r.2) : ps_at z 8 0 [(0, .ref (z_ad z 45)), (1, .int a1), (2, .int a2), (3, .int a3), (4, .int a4)] [] σ := by
  unfold fX5_times at h
  refine ps_aload_n C (pc := 0) dX5_times_0 0 rfl ?_
  refine ps_iconst C (pc := 1) (v := 0) dX5_times_1 (by decide) ?_
  refine pp_45_0 C (pc := 2) tw_796 dX5_times_2 h (fun σ1 h => ?_)
  refine ps_aload_n C (pc := 5) dX5_times_5 0 rfl ?_
  refine ps_iload_n C (pc := 6) dX5_times_6 1 rfl ?_
  obtain ⟨q2, hq2, h⟩ := ps_bd h
  refine ps_callVI C Z (pc := 7) (As := [.int a1]) (k0 := 45) (mX5_isRow  hq2) (Cn := "PartSumsModel") rfl tw_982 tw_984 tw_42 tw_70 tw_985 hdX5_isRow rfl rfl ⟨by decide, by decide⟩ (by decide) ps_o45 rfl rfl (Nat.le_of_ble_eq_true rfl) dX5_times_7 rfl ?_
  refine ps_if_eq C (pc := 10) 40 dX5_times_10 (by decide) (fun hc => ?_) (fun hc => ?_)
  · have h := ps_ift hc h
    refine ps_iconst C (pc := 40) (v := -1) dX5_times_40 (by decide) ?_
    obtain rfl := Option.some.inj h
    exact k _ _ dX5_times_41
  · have h := ps_iff hc h
    refine ps_aload_n C (pc := 13) dX5_times_13 0 rfl ?_
    refine ps_iload_n C (pc := 14) dX5_times_14 2 rfl ?_
    obtain ⟨q3, hq3, h⟩ := ps_bd h
    refine ps_callVI C Z (pc := 15) (As := [.int a2]) (k0 := 45) (mX5_isRow  hq3) (Cn := "PartSumsModel") rfl tw_982 tw_984 tw_42 tw_70 tw_985 hdX5_isRow rfl rfl ⟨by decide, by decide⟩ (by decide) ps_o45 rfl rfl (Nat.le_of_ble_eq_true rfl) dX5_times_15 rfl ?_
    refine ps_if_eq C (pc := 18) 40 dX5_times_18 (by decide) (fun hc => ?_) (fun hc => ?_)
    · have h := ps_ift hc h
      refine ps_iconst C (pc := 40) (v := -1) dX5_times_40 (by decide) ?_
      obtain rfl := Option.some.inj h
      exact k _ _ dX5_times_41
    · have h := ps_iff hc h
      refine ps_aload_n C (pc := 21) dX5_times_21 0 rfl ?_
      refine ps_iload C (pc := 22) dX5_times_22 4 rfl ?_
      obtain ⟨q4, hq4, h⟩ := ps_bd h
      refine ps_callVI C Z (pc := 24) (As := [.int a4]) (k0 := 45) (mX5_isRow  hq4) (Cn := "PartSumsModel") rfl tw_982 tw_984 tw_42 tw_70 tw_985 hdX5_isRow rfl rfl ⟨by decide, by decide⟩ (by decide) ps_o45 rfl rfl (Nat.le_of_ble_eq_true rfl) dX5_times_24 rfl ?_
      refine ps_if_eq C (pc := 27) 40 dX5_times_27 (by decide) (fun hc => ?_) (fun hc => ?_)
      · have h := ps_ift hc h
        refine ps_iconst C (pc := 40) (v := -1) dX5_times_40 (by decide) ?_
        obtain rfl := Option.some.inj h
        exact k _ _ dX5_times_41
      · have h := ps_iff hc h
        refine ps_iload_n C (pc := 30) dX5_times_30 3 rfl ?_
        refine ps_iconst C (pc := 31) (v := 0) dX5_times_31 (by decide) ?_
        refine ps_bipush C (pc := 32) (v := 6) dX5_times_32 (by decide) ?_
        obtain ⟨q5, hq5, h⟩ := ps_bd h
        refine ps_callSI C Z (pc := 34) (As := [.int a3, .int (0 : Int32), .int (6 : Int32)]) (mX5_isIn  hq5) tw_904 tw_905 tw_70 tw_906 hdX5_isIn rfl rfl ⟨by decide, by decide⟩ rfl (Nat.le_of_ble_eq_true rfl) dX5_times_34 rfl ?_
        refine ps_if_ne C (pc := 37) 42 dX5_times_37 (by decide) (fun hc => ?_) (fun hc => ?_)
        · have h := ps_iff hc h
          refine ps_iconst C (pc := 42) (v := 0) dX5_times_42 (by decide) ?_
          refine ps_istore C (pc := 43) (lv' := [(5, .int (0 : Int32)), (0, .ref (z_ad z 45)), (1, .int a1), (2, .int a2), (3, .int a3), (4, .int a4)]) dX5_times_43 (by decide) rfl ?_
          obtain ⟨e10, he10, h⟩ := ps_bd h
          refine ps_sub [1, 2, 3, 4, 5, 0] rfl ?_
          refine ps_loop (P := pX5_times_S45 z a1 a2 a3 a4) (K := qX5_times_S45 z a1 a2 a3 a4) (fun s r h k => tX5_times_S45 C Z a1 a2 a3 a4  s r h k) _ _ _ he10 ?_
          unfold qX5_times_S45
          refine ps_iconst C (pc := 68) (v := 0) dX5_times_68 (by decide) ?_
          refine ps_istore C (pc := 69) (lv' := [(5, .int (0 : Int32)), (0, .ref (z_ad z 45)), (1, .int a1), (2, .int a2), (3, .int a3), (4, .int a4)]) dX5_times_69 (by decide) rfl ?_
          obtain ⟨e24, he24, h⟩ := ps_bd h
          refine ps_sub [1, 2, 3, 4, 5, 0] rfl ?_
          refine ps_loop (P := pX5_times_S71 z a1 a2 a3 a4) (K := qX5_times_S71 z a1 a2 a3 a4) (fun s r h k => tX5_times_S71 C Z a1 a2 a3 a4  s r h k) _ _ _ he24 ?_
          unfold qX5_times_S71
          refine ps_aload_n C (pc := 161) dX5_times_161 0 rfl ?_
          refine ps_iload C (pc := 162) dX5_times_162 1 rfl ?_
          refine ps_aload_n C (pc := 164) dX5_times_164 0 rfl ?_
          obtain ⟨q25, hq25, h⟩ := ps_bd h
          refine ps_callVI C Z (pc := 165) (As := []) (k0 := 45) (mX5_all  hq25) (Cn := "PartSumsModel") rfl tw_954 tw_956 tw_38 tw_70 tw_957 hdX5_all rfl rfl ⟨by decide, by decide⟩ (by decide) ps_o45 rfl rfl (Nat.le_of_ble_eq_true rfl) dX5_times_165 rfl ?_
          obtain ⟨q26, hq26, h⟩ := ps_bd h
          refine ps_callVI C Z (pc := 168) (As := [.int a4, .int q25]) (k0 := 45) (mX5_becomes  hq26) (Cn := "PartSumsModel") rfl tw_1018 tw_1020 tw_48 tw_70 tw_1021 hdX5_becomes rfl rfl ⟨by decide, by decide⟩ (by decide) ps_o45 rfl rfl (Nat.le_of_ble_eq_true rfl) dX5_times_168 rfl ?_
          obtain rfl := Option.some.inj h
          exact k _ _ dX5_times_171
        · have h := ps_ift hc h
          refine ps_iconst C (pc := 40) (v := -1) dX5_times_40 (by decide) ?_
          obtain rfl := Option.some.inj h
          exact k _ _ dX5_times_41
def rmX5_times : Room := { frames := 3, cells := 0, slots := 0, locals := 68 }
theorem mX5_times {l : Launch} {E : ps_E} {σ : ps_S} {a1 : Int32} {a2 : Int32} {a3 : Int32} {a4 : Int32} {r : Int32 × ps_S}  (h : fX5_times a1 a2 a3 a4 σ = some r) : ps_MI l yX5_times (ps_wm yX5_times cX5_times 8 (some .int)) rmX5_times [.ref (e_ad E 45), .int a1, .int a2, .int a3, .int a4] E σ r.1 r.2 :=
  ps_metI yX5_times rmX5_times 8 (own := "PartSumsModel") r.1 (by decide +kernel) rfl (Nat.le_of_ble_eq_true rfl) rfl (fun z e1 e2 e3 e4 e5 C k => by
    subst e5
    exact tX5_times C (ps_Zof e1 e3 e4)  h k)
theorem hdX5_times : yX5_times.cls ≠ "java/lang/invoke/MethodHandle" ∧ yX5_times.cls ≠ "java/lang/invoke/VarHandle" ∧ (parseMethodDescriptor yX5_times.desc).map (fun d => d.parameters.length) = some 4 := by decide +kernel
def pX5_apart_S2 (z : ps_X) (a1 : Int32) (s : Int32 × ps_S) : Prop := ps_at z 6 2 [(0, .ref (z_ad z 45)), (1, .int a1), (2, .int s.1)] [] s.2
def qX5_apart_S2 (z : ps_X) (a1 : Int32) (x : (ps_S)) : Prop := match x with | y => ps_at z 6 28 [(0, .ref (z_ad z 45)), (1, .int a1)] [] y
def fX5_apart_S2 (a1 : Int32) (a2 : Int32) (σ : ps_S) : Option ((Int32 × ps_S) ⊕ ((ps_S))) :=
  ((fX5_all σ).bind fun q1 =>
  (if q1 < a2 then some (.inr σ)
  else (ps_ck a2 256 ((ps_ck a2 256 ((ps_let (ps_ui σ 53 (Int32.toNatClampNeg a2) (σ.1 52 (Int32.toNatClampNeg a2))) fun σ4 =>
  (ps_let (a2 + (1 : Int32)) fun x5 =>
  some (.inl (x5, σ4))))))))))
set_option maxHeartbeats 4000000 in
set_option maxRecDepth 100000 in
theorem tX5_apart_S2 {z : ps_X} (C : ps_C z cX5_apart 6 "PartSumsModel") (Z : ps_Z z 2 40) (a1 : Int32)  (s : Int32 × ps_S) (r : (Int32 × ps_S) ⊕ ((ps_S))) (h : fX5_apart_S2 a1 s.1 s.2 = some r) (k : ps_k (pX5_apart_S2 z a1) (qX5_apart_S2 z a1) r) : pX5_apart_S2 z a1 s := by
  obtain ⟨a2, σ⟩ := s
  unfold fX5_apart_S2 at h
  unfold pX5_apart_S2
  refine ps_iload_n C (pc := 2) dX5_apart_2 2 rfl ?_
  refine ps_aload_n C (pc := 3) dX5_apart_3 0 rfl ?_
  obtain ⟨q1, hq1, h⟩ := ps_bd h
  refine ps_callVI C Z (pc := 4) (As := []) (k0 := 45) (mX5_all  hq1) (Cn := "PartSumsModel") rfl tw_954 tw_956 tw_38 tw_70 tw_957 hdX5_all rfl rfl ⟨by decide, by decide⟩ (by decide) ps_o45 rfl rfl (Nat.le_of_ble_eq_true rfl) dX5_apart_4 rfl ?_
  refine ps_icmp_gt C (pc := 7) 28 dX5_apart_7 (by decide) (fun hc => ?_) (fun hc => ?_)
  · have h := ps_ift hc h
    obtain rfl := Option.some.inj h
    exact ps_sub [0, 1] rfl k
  · have h := ps_iff hc h
    refine ps_aload_n C (pc := 10) dX5_apart_10 0 rfl ?_
    refine pg_45_17 C (pc := 11) tw_813 dX5_apart_11 ?_
    refine ps_iload_n C (pc := 14) dX5_apart_14 2 rfl ?_
    refine ps_aload_n C (pc := 15) dX5_apart_15 0 rfl ?_
    refine pg_45_16 C (pc := 16) tw_812 dX5_apart_16 ?_
    refine ps_iload_n C (pc := 19) dX5_apart_19 2 rfl ?_
    obtain ⟨hi2, h⟩ := ps_ck_s h
    refine ps_iald C (pc := 20) 52 rfl rfl hi2 dX5_apart_20 ?_
    obtain ⟨hi3, h⟩ := ps_ck_s h
    refine ps_iastL C (pc := 21) 53 rfl rfl hi3 dX5_apart_21 h (fun σ4 h => ?_)
    refine ps_iincL C (pc := 22) (zz := 1) (lw := fun x5 => [(2, .int x5), (0, .ref (z_ad z 45)), (1, .int a1)]) dX5_apart_22 2 rfl (by decide) (by decide) (fun _ => rfl) h (fun x5 h => ?_)
    refine ps_goto C (pc := 25) 2 dX5_apart_25 (by decide) ?_
    obtain rfl := Option.some.inj h
    exact ps_sub [1, 2, 0] rfl k
def pX5_apart_S30 (z : ps_X) (a1 : Int32) (s : Int32 × ps_S) : Prop := ps_at z 6 30 [(0, .ref (z_ad z 45)), (1, .int a1), (2, .int s.1)] [] s.2
def qX5_apart_S30 (z : ps_X) (a1 : Int32) (x : (ps_S)) : Prop := match x with | y => ps_at z 6 106 [] [] y
def pX5_apart_S43 (z : ps_X) (a1 : Int32) (a2 : Int32) (σ : ps_S) (s : Int64 × Int32) : Prop := ps_at z 6 43 [(0, .ref (z_ad z 45)), (1, .int a1), (2, .int a2), (3, .long s.1), (5, .int s.2)] [] σ
def qX5_apart_S43 (z : ps_X) (a1 : Int32) (a2 : Int32) (σ : ps_S) (x : (Int64)) : Prop := match x with | y => ps_at z 6 76 [(0, .ref (z_ad z 45)), (1, .int a1), (2, .int a2), (3, .long y)] [] σ
def fX5_apart_S43 (a1 : Int32) (a2 : Int32) (σ : ps_S) (a3 : Int64) (a5 : Int32) : Option ((Int64 × Int32) ⊕ ((Int64))) :=
  ((fX5_numberOf a1 a5 σ).bind fun q8 =>
  (ps_ck (a2 &&& (a5 ^^^ (-1 : Int32))) 256 ((ps_let (a3 + (((Int32.toInt64 q8) * (Int32.toInt64 (σ.1 53 (Int32.toNatClampNeg (a2 &&& (a5 ^^^ (-1 : Int32))))))) - ((Int32.toInt64 q8) * (Int32.toInt64 (σ.1 53 (Int32.toNatClampNeg (a2 &&& (a5 ^^^ (-1 : Int32))))))) / (1000003 : Int64) * (1000003 : Int64))) fun x10 =>
  (if a5 = 0 then some (.inr x10)
  else (ps_let ((a5 - (1 : Int32)) &&& a2) fun x11 =>
  some (.inl (x10, x11))))))))
set_option maxHeartbeats 4000000 in
set_option maxRecDepth 100000 in
theorem tX5_apart_S43 {z : ps_X} (C : ps_C z cX5_apart 6 "PartSumsModel") (Z : ps_Z z 2 40) (a1 : Int32) (a2 : Int32) (σ : ps_S)  (s : Int64 × Int32) (r : (Int64 × Int32) ⊕ ((Int64))) (h : fX5_apart_S43 a1 a2 σ s.1 s.2 = some r) (k : ps_k (pX5_apart_S43 z a1 a2 σ) (qX5_apart_S43 z a1 a2 σ) r) : pX5_apart_S43 z a1 a2 σ s := by
  obtain ⟨a3, a5⟩ := s
  unfold fX5_apart_S43 at h
  unfold pX5_apart_S43
  refine ps_lload_n C (pc := 43) dX5_apart_43 3 rfl ?_
  refine ps_aload_n C (pc := 44) dX5_apart_44 0 rfl ?_
  refine ps_iload_n C (pc := 45) dX5_apart_45 1 rfl ?_
  refine ps_iload C (pc := 46) dX5_apart_46 4 rfl ?_
  obtain ⟨q8, hq8, h⟩ := ps_bd h
  refine ps_callVI C Z (pc := 48) (As := [.int a1, .int a5]) (k0 := 45) (mX5_numberOf  hq8) (Cn := "PartSumsModel") rfl tw_986 tw_988 tw_43 tw_70 tw_989 hdX5_numberOf rfl rfl ⟨by decide, by decide⟩ (by decide) ps_o45 rfl rfl (Nat.le_of_ble_eq_true rfl) dX5_apart_48 rfl ?_
  refine ps_i2l C (pc := 51) dX5_apart_51 ?_
  refine ps_aload_n C (pc := 52) dX5_apart_52 0 rfl ?_
  refine pg_45_17 C (pc := 53) tw_813 dX5_apart_53 ?_
  refine ps_iload_n C (pc := 56) dX5_apart_56 2 rfl ?_
  refine ps_iload C (pc := 57) dX5_apart_57 4 rfl ?_
  refine ps_iconst C (pc := 59) (v := -1) dX5_apart_59 (by decide) ?_
  refine ps_ixor C (pc := 60) dX5_apart_60 ?_
  refine ps_iand C (pc := 61) dX5_apart_61 ?_
  obtain ⟨hi9, h⟩ := ps_ck_s h
  refine ps_iald C (pc := 62) 53 rfl rfl hi9 dX5_apart_62 ?_
  refine ps_i2l C (pc := 63) dX5_apart_63 ?_
  refine ps_lmul C (pc := 64) dX5_apart_64 ?_
  refine ps_ldc2 C (pc := 65) tw_1001 dX5_apart_65 ?_
  refine ps_lrem C (pc := 68) dX5_apart_68 (by decide) ?_
  refine ps_ladd C (pc := 69) dX5_apart_69 ?_
  refine ps_lstoreL_n C (pc := 70) (lw := fun x10 => [(3, .long x10), (0, .ref (z_ad z 45)), (1, .int a1), (2, .int a2), (5, .int a5)]) dX5_apart_70 (by decide) (fun _ => rfl) h (fun x10 h => ?_)
  refine ps_iload C (pc := 71) dX5_apart_71 4 rfl ?_
  refine ps_if_ne C (pc := 73) 79 dX5_apart_73 (by decide) (fun hc => ?_) (fun hc => ?_)
  · have h := ps_iff hc h
    refine ps_iload C (pc := 79) dX5_apart_79 4 rfl ?_
    refine ps_iconst C (pc := 81) (v := 1) dX5_apart_81 (by decide) ?_
    refine ps_isub C (pc := 82) dX5_apart_82 ?_
    refine ps_iload_n C (pc := 83) dX5_apart_83 3 rfl ?_
    refine ps_iand C (pc := 84) dX5_apart_84 ?_
    refine ps_istoreL C (pc := 85) (lw := fun x11 => [(5, .int x11), (3, .long x10), (0, .ref (z_ad z 45)), (1, .int a1), (2, .int a2)]) dX5_apart_85 (by decide) (fun _ => rfl) h (fun x11 h => ?_)
    refine ps_goto C (pc := 87) 43 dX5_apart_87 (by decide) ?_
    obtain rfl := Option.some.inj h
    exact ps_sub [2, 3, 4, 1, 0] rfl k
  · have h := ps_ift hc h
    obtain rfl := Option.some.inj h
    exact ps_sub [1, 2, 3, 0] rfl k
def fX5_apart_S30 (a1 : Int32) (a2 : Int32) (σ : ps_S) : Option ((Int32 × ps_S) ⊕ ((ps_S))) :=
  ((fX5_all σ).bind fun q7 =>
  (if q7 < a2 then some (.inr σ)
  else ((ps_lp (fun s => fX5_apart_S43 a1 a2 σ s.1 s.2) 100000 ((0 : Int64), a2)).bind fun e12 =>
  ((fX5_rest e12).bind fun q13 =>
  (ps_ck a2 256 ((ps_let (ps_ui σ 52 (Int32.toNatClampNeg a2) q13) fun σ15 =>
  (ps_let (a2 + (1 : Int32)) fun x16 =>
  some (.inl (x16, σ15))))))))))
set_option maxHeartbeats 4000000 in
set_option maxRecDepth 100000 in
theorem tX5_apart_S30 {z : ps_X} (C : ps_C z cX5_apart 6 "PartSumsModel") (Z : ps_Z z 2 40) (a1 : Int32)  (s : Int32 × ps_S) (r : (Int32 × ps_S) ⊕ ((ps_S))) (h : fX5_apart_S30 a1 s.1 s.2 = some r) (k : ps_k (pX5_apart_S30 z a1) (qX5_apart_S30 z a1) r) : pX5_apart_S30 z a1 s := by
  obtain ⟨a2, σ⟩ := s
  unfold fX5_apart_S30 at h
  unfold pX5_apart_S30
  refine ps_iload_n C (pc := 30) dX5_apart_30 2 rfl ?_
  refine ps_aload_n C (pc := 31) dX5_apart_31 0 rfl ?_
  obtain ⟨q7, hq7, h⟩ := ps_bd h
  refine ps_callVI C Z (pc := 32) (As := []) (k0 := 45) (mX5_all  hq7) (Cn := "PartSumsModel") rfl tw_954 tw_956 tw_38 tw_70 tw_957 hdX5_all rfl rfl ⟨by decide, by decide⟩ (by decide) ps_o45 rfl rfl (Nat.le_of_ble_eq_true rfl) dX5_apart_32 rfl ?_
  refine ps_icmp_gt C (pc := 35) 106 dX5_apart_35 (by decide) (fun hc => ?_) (fun hc => ?_)
  · have h := ps_ift hc h
    obtain rfl := Option.some.inj h
    exact ps_sub [] rfl k
  · have h := ps_iff hc h
    refine ps_lconst C (pc := 38) (v := 0) dX5_apart_38 (by decide) ?_
    refine ps_lstore_n C (pc := 39) (lv' := [(3, .long (0 : Int64)), (0, .ref (z_ad z 45)), (1, .int a1), (2, .int a2)]) dX5_apart_39 (by decide) rfl ?_
    refine ps_iload_n C (pc := 40) dX5_apart_40 3 rfl ?_
    refine ps_istore C (pc := 41) (lv' := [(5, .int a2), (3, .long (0 : Int64)), (0, .ref (z_ad z 45)), (1, .int a1), (2, .int a2)]) dX5_apart_41 (by decide) rfl ?_
    obtain ⟨e12, he12, h⟩ := ps_bd h
    refine ps_sub [2, 3, 4, 1, 0] rfl ?_
    refine ps_loop (P := pX5_apart_S43 z a1 a2 σ) (K := qX5_apart_S43 z a1 a2 σ) (fun s r h k => tX5_apart_S43 C Z a1 a2 σ  s r h k) _ _ _ he12 ?_
    unfold qX5_apart_S43
    refine ps_goto C (pc := 76) 90 dX5_apart_76 (by decide) ?_
    refine ps_aload_n C (pc := 90) dX5_apart_90 0 rfl ?_
    refine pg_45_16 C (pc := 91) tw_812 dX5_apart_91 ?_
    refine ps_iload_n C (pc := 94) dX5_apart_94 2 rfl ?_
    refine ps_lload_n C (pc := 95) dX5_apart_95 3 rfl ?_
    obtain ⟨q13, hq13, h⟩ := ps_bd h
    refine ps_callSI C Z (pc := 96) (As := [.long e12]) (mX5_rest  hq13) tw_998 tw_999 tw_70 tw_1000 hdX5_rest rfl rfl ⟨by decide, by decide⟩ rfl (Nat.le_of_ble_eq_true rfl) dX5_apart_96 rfl ?_
    obtain ⟨hi14, h⟩ := ps_ck_s h
    refine ps_iastL C (pc := 99) 52 rfl rfl hi14 dX5_apart_99 h (fun σ15 h => ?_)
    refine ps_iincL C (pc := 100) (zz := 1) (lw := fun x16 => [(2, .int x16), (0, .ref (z_ad z 45)), (1, .int a1), (3, .long e12)]) dX5_apart_100 2 rfl (by decide) (by decide) (fun _ => rfl) h (fun x16 h => ?_)
    refine ps_goto C (pc := 103) 30 dX5_apart_103 (by decide) ?_
    obtain rfl := Option.some.inj h
    exact ps_sub [1, 2, 0] rfl k
def fX5_apart (a1 : Int32) (σ : ps_S) : Option (ps_S) :=
  ((ps_lp (fun s => fX5_apart_S2 a1 s.1 s.2) 100000 ((0 : Int32), σ)).bind fun e6 =>
  ((ps_lp (fun s => fX5_apart_S30 a1 s.1 s.2) 100000 ((0 : Int32), e6)).bind fun e17 =>
  some e17))
set_option maxHeartbeats 4000000 in
set_option maxRecDepth 100000 in
theorem tX5_apart {z : ps_X} (C : ps_C z cX5_apart 6 "PartSumsModel") (Z : ps_Z z 2 40) {a1 : Int32} {σ : ps_S}  {r : ps_S} (h : fX5_apart a1 σ = some r) (k : ps_KV z 6 cX5_apart r) : ps_at z 6 0 [(0, .ref (z_ad z 45)), (1, .int a1)] [] σ := by
  unfold fX5_apart at h
  refine ps_iconst C (pc := 0) (v := 0) dX5_apart_0 (by decide) ?_
  refine ps_istore_n C (pc := 1) (lv' := [(2, .int (0 : Int32)), (0, .ref (z_ad z 45)), (1, .int a1)]) dX5_apart_1 (by decide) rfl ?_
  obtain ⟨e6, he6, h⟩ := ps_bd h
  refine ps_sub [1, 2, 0] rfl ?_
  refine ps_loop (P := pX5_apart_S2 z a1) (K := qX5_apart_S2 z a1) (fun s r h k => tX5_apart_S2 C Z a1  s r h k) _ _ _ he6 ?_
  unfold qX5_apart_S2
  refine ps_iconst C (pc := 28) (v := 0) dX5_apart_28 (by decide) ?_
  refine ps_istore_n C (pc := 29) (lv' := [(2, .int (0 : Int32)), (0, .ref (z_ad z 45)), (1, .int a1)]) dX5_apart_29 (by decide) rfl ?_
  obtain ⟨e17, he17, h⟩ := ps_bd h
  refine ps_sub [1, 2, 0] rfl ?_
  refine ps_loop (P := pX5_apart_S30 z a1) (K := qX5_apart_S30 z a1) (fun s r h k => tX5_apart_S30 C Z a1  s r h k) _ _ _ he17 ?_
  unfold qX5_apart_S30
  obtain rfl := Option.some.inj h
  exact k _ _ dX5_apart_106
def rmX5_apart : Room := { frames := 2, cells := 0, slots := 0, locals := 40 }
theorem mX5_apart {l : Launch} {E : ps_E} {σ : ps_S} {a1 : Int32} {r : ps_S}  (h : fX5_apart a1 σ = some r) : ps_MV l yX5_apart (ps_wm yX5_apart cX5_apart 6 none) rmX5_apart [.ref (e_ad E 45), .int a1] E σ r :=
  ps_metV yX5_apart rmX5_apart 6 (own := "PartSumsModel")  (by decide +kernel) rfl (Nat.le_of_ble_eq_true rfl) rfl (fun z e1 e2 e3 e4 e5 C k => by
    subst e5
    exact tX5_apart C (ps_Zof e1 e3 e4)  h k)
theorem hdX5_apart : yX5_apart.cls ≠ "java/lang/invoke/MethodHandle" ∧ yX5_apart.cls ≠ "java/lang/invoke/VarHandle" ∧ (parseMethodDescriptor yX5_apart.desc).map (fun d => d.parameters.length) = some 1 := by decide +kernel
def pX5_laysOne_S2 (z : ps_X)  (s : Int32 × ps_S) : Prop := ps_at z 2 2 [(0, .ref (z_ad z 45)), (1, .int s.1)] [] s.2
def qX5_laysOne_S2 (z : ps_X)  (x : (ps_S)) : Prop := match x with | y => ps_at z 2 31 [] [] y
def fX5_laysOne_J24 (a1 : Int32) (u0 : Int32) (u1 : Int32) (σ : ps_S) : Option ((Int32 × ps_S) ⊕ ((ps_S))) :=
  (ps_ck u1 256 ((ps_let (ps_ui σ 52 (Int32.toNatClampNeg u1) u0) fun σ3 =>
  (ps_let (a1 + (1 : Int32)) fun x4 =>
  some (.inl (x4, σ3))))))
set_option maxHeartbeats 4000000 in
set_option maxRecDepth 100000 in
theorem tX5_laysOne_J24 {z : ps_X} (C : ps_C z cX5_laysOne 2 "PartSumsModel") (Z : ps_Z z 2 40) {a1 : Int32} {u0 : Int32} {u1 : Int32} {σ : ps_S}  {r : (Int32 × ps_S) ⊕ ((ps_S))} (h : fX5_laysOne_J24 a1 u0 u1 σ = some r) (k : ps_k (pX5_laysOne_S2 z ) (qX5_laysOne_S2 z ) r) : ps_at z 2 24 [(0, .ref (z_ad z 45)), (1, .int a1)] [.int u0, .int u1, .ref (z_ad z 52)] σ := by
  unfold fX5_laysOne_J24 at h
  obtain ⟨hi2, h⟩ := ps_ck_s h
  refine ps_iastL C (pc := 24) 52 rfl rfl hi2 dX5_laysOne_24 h (fun σ3 h => ?_)
  refine ps_iincL C (pc := 25) (zz := 1) (lw := fun x4 => [(1, .int x4), (0, .ref (z_ad z 45))]) dX5_laysOne_25 1 rfl (by decide) (by decide) (fun _ => rfl) h (fun x4 h => ?_)
  refine ps_goto C (pc := 28) 2 dX5_laysOne_28 (by decide) ?_
  obtain rfl := Option.some.inj h
  exact ps_sub [1, 0] rfl k
def fX5_laysOne_S2  (a1 : Int32) (σ : ps_S) : Option ((Int32 × ps_S) ⊕ ((ps_S))) :=
  ((fX5_all σ).bind fun q1 =>
  (if q1 < a1 then some (.inr σ)
  else (if a1 = 0 then fX5_laysOne_J24 a1 (1 : Int32) a1 σ
  else fX5_laysOne_J24 a1 (0 : Int32) a1 σ)))
set_option maxHeartbeats 4000000 in
set_option maxRecDepth 100000 in
theorem tX5_laysOne_S2 {z : ps_X} (C : ps_C z cX5_laysOne 2 "PartSumsModel") (Z : ps_Z z 2 40)   (s : Int32 × ps_S) (r : (Int32 × ps_S) ⊕ ((ps_S))) (h : fX5_laysOne_S2  s.1 s.2 = some r) (k : ps_k (pX5_laysOne_S2 z ) (qX5_laysOne_S2 z ) r) : pX5_laysOne_S2 z  s := by
  obtain ⟨a1, σ⟩ := s
  unfold fX5_laysOne_S2 at h
  unfold pX5_laysOne_S2
  refine ps_iload_n C (pc := 2) dX5_laysOne_2 1 rfl ?_
  refine ps_aload_n C (pc := 3) dX5_laysOne_3 0 rfl ?_
  obtain ⟨q1, hq1, h⟩ := ps_bd h
  refine ps_callVI C Z (pc := 4) (As := []) (k0 := 45) (mX5_all  hq1) (Cn := "PartSumsModel") rfl tw_954 tw_956 tw_38 tw_70 tw_957 hdX5_all rfl rfl ⟨by decide, by decide⟩ (by decide) ps_o45 rfl rfl (Nat.le_of_ble_eq_true rfl) dX5_laysOne_4 rfl ?_
  refine ps_icmp_gt C (pc := 7) 31 dX5_laysOne_7 (by decide) (fun hc => ?_) (fun hc => ?_)
  · have h := ps_ift hc h
    obtain rfl := Option.some.inj h
    exact ps_sub [] rfl k
  · have h := ps_iff hc h
    refine ps_aload_n C (pc := 10) dX5_laysOne_10 0 rfl ?_
    refine pg_45_16 C (pc := 11) tw_812 dX5_laysOne_11 ?_
    refine ps_iload_n C (pc := 14) dX5_laysOne_14 1 rfl ?_
    refine ps_iload_n C (pc := 15) dX5_laysOne_15 1 rfl ?_
    refine ps_if_ne C (pc := 16) 23 dX5_laysOne_16 (by decide) (fun hc => ?_) (fun hc => ?_)
    · have h := ps_iff hc h
      refine ps_iconst C (pc := 23) (v := 0) dX5_laysOne_23 (by decide) ?_
      exact ps_sub [0, 1] rfl (tX5_laysOne_J24 C Z  h k)
    · have h := ps_ift hc h
      refine ps_iconst C (pc := 19) (v := 1) dX5_laysOne_19 (by decide) ?_
      refine ps_goto C (pc := 20) 24 dX5_laysOne_20 (by decide) ?_
      exact ps_sub [0, 1] rfl (tX5_laysOne_J24 C Z  h k)
def fX5_laysOne (σ : ps_S) : Option (ps_S) :=
  ((ps_lp (fun s => fX5_laysOne_S2  s.1 s.2) 100000 ((0 : Int32), σ)).bind fun e5 =>
  some e5)
set_option maxHeartbeats 4000000 in
set_option maxRecDepth 100000 in
theorem tX5_laysOne {z : ps_X} (C : ps_C z cX5_laysOne 2 "PartSumsModel") (Z : ps_Z z 2 40) {σ : ps_S}  {r : ps_S} (h : fX5_laysOne σ = some r) (k : ps_KV z 2 cX5_laysOne r) : ps_at z 2 0 [(0, .ref (z_ad z 45))] [] σ := by
  unfold fX5_laysOne at h
  refine ps_iconst C (pc := 0) (v := 0) dX5_laysOne_0 (by decide) ?_
  refine ps_istore_n C (pc := 1) (lv' := [(1, .int (0 : Int32)), (0, .ref (z_ad z 45))]) dX5_laysOne_1 (by decide) rfl ?_
  obtain ⟨e5, he5, h⟩ := ps_bd h
  refine ps_sub [1, 0] rfl ?_
  refine ps_loop (P := pX5_laysOne_S2 z ) (K := qX5_laysOne_S2 z ) (fun s r h k => tX5_laysOne_S2 C Z   s r h k) _ _ _ he5 ?_
  unfold qX5_laysOne_S2
  obtain rfl := Option.some.inj h
  exact k _ _ dX5_laysOne_31
def rmX5_laysOne : Room := { frames := 2, cells := 0, slots := 0, locals := 40 }
theorem mX5_laysOne {l : Launch} {E : ps_E} {σ : ps_S}  {r : ps_S}  (h : fX5_laysOne σ = some r) : ps_MV l yX5_laysOne (ps_wm yX5_laysOne cX5_laysOne 2 none) rmX5_laysOne [.ref (e_ad E 45)] E σ r :=
  ps_metV yX5_laysOne rmX5_laysOne 2 (own := "PartSumsModel")  (by decide +kernel) rfl (Nat.le_of_ble_eq_true rfl) rfl (fun z e1 e2 e3 e4 e5 C k => by
    subst e5
    exact tX5_laysOne C (ps_Zof e1 e3 e4)  h k)
theorem hdX5_laysOne : yX5_laysOne.cls ≠ "java/lang/invoke/MethodHandle" ∧ yX5_laysOne.cls ≠ "java/lang/invoke/VarHandle" ∧ (parseMethodDescriptor yX5_laysOne.desc).map (fun d => d.parameters.length) = some 0 := by decide +kernel
def pX5_power_S40 (z : ps_X) (a1 : Int32) (a2 : Int32) (a3 : Int32) (s : Int32 × ps_S) : Prop := ps_at z 5 40 [(0, .ref (z_ad z 45)), (1, .int a1), (2, .int a2), (3, .int a3), (4, .int s.1)] [] s.2
def qX5_power_S40 (z : ps_X) (a1 : Int32) (a2 : Int32) (a3 : Int32) (x : (ps_S)) : Prop := match x with | y => ps_at z 5 57 [(0, .ref (z_ad z 45)), (3, .int a3)] [] y
def fX5_power_S40 (a1 : Int32) (a2 : Int32) (a3 : Int32) (a4 : Int32) (σ : ps_S) : Option ((Int32 × ps_S) ⊕ ((ps_S))) :=
  (if a2 ≤ a4 then some (.inr σ)
  else ((fX5_apart a1 σ).bind fun q6 =>
  (ps_let (a4 + (1 : Int32)) fun x7 =>
  some (.inl (x7, q6)))))
set_option maxHeartbeats 4000000 in
set_option maxRecDepth 100000 in
theorem tX5_power_S40 {z : ps_X} (C : ps_C z cX5_power 5 "PartSumsModel") (Z : ps_Z z 3 68) (a1 : Int32) (a2 : Int32) (a3 : Int32)  (s : Int32 × ps_S) (r : (Int32 × ps_S) ⊕ ((ps_S))) (h : fX5_power_S40 a1 a2 a3 s.1 s.2 = some r) (k : ps_k (pX5_power_S40 z a1 a2 a3) (qX5_power_S40 z a1 a2 a3) r) : pX5_power_S40 z a1 a2 a3 s := by
  obtain ⟨a4, σ⟩ := s
  unfold fX5_power_S40 at h
  unfold pX5_power_S40
  refine ps_iload C (pc := 40) dX5_power_40 4 rfl ?_
  refine ps_iload_n C (pc := 42) dX5_power_42 2 rfl ?_
  refine ps_icmp_ge C (pc := 43) 57 dX5_power_43 (by decide) (fun hc => ?_) (fun hc => ?_)
  · have h := ps_ift hc h
    obtain rfl := Option.some.inj h
    exact ps_sub [0, 3] rfl k
  · have h := ps_iff hc h
    refine ps_aload_n C (pc := 46) dX5_power_46 0 rfl ?_
    refine ps_iload_n C (pc := 47) dX5_power_47 1 rfl ?_
    obtain ⟨q6, hq6, h⟩ := ps_bd h
    refine ps_callVV C Z (pc := 48) (As := [.int a1]) (k0 := 45) (mX5_apart  hq6) (Cn := "PartSumsModel") rfl tw_1057 tw_1059 tw_53 tw_70 tw_1060 hdX5_apart rfl rfl ⟨by decide, by decide⟩ (by decide) ps_o45 rfl rfl (Nat.le_of_ble_eq_true rfl) dX5_power_48 rfl ?_
    refine ps_iincL C (pc := 51) (zz := 1) (lw := fun x7 => [(4, .int x7), (0, .ref (z_ad z 45)), (1, .int a1), (2, .int a2), (3, .int a3)]) dX5_power_51 4 rfl (by decide) (by decide) (fun _ => rfl) h (fun x7 h => ?_)
    refine ps_goto C (pc := 54) 40 dX5_power_54 (by decide) ?_
    obtain rfl := Option.some.inj h
    exact ps_sub [1, 2, 3, 4, 0] rfl k
def fX5_power (a1 : Int32) (a2 : Int32) (a3 : Int32) (σ : ps_S) : Option (Int32 × ps_S) :=
  (ps_let (ps_ui σ 45 0 (0 : Int32)) fun σ1 =>
  ((fX5_isRow a1 σ1).bind fun q2 =>
  (if q2 = 0 then some ((-1 : Int32), σ1)
  else ((fX5_isRow a3 σ1).bind fun q3 =>
  (if q3 = 0 then some ((-1 : Int32), σ1)
  else ((fX5_isIn a2 (0 : Int32) (99 : Int32)).bind fun q4 =>
  (if q4 = 0 then some ((-1 : Int32), σ1)
  else ((fX5_laysOne σ1).bind fun q5 =>
  ((ps_lp (fun s => fX5_power_S40 a1 a2 a3 s.1 s.2) 100000 ((0 : Int32), q5)).bind fun e8 =>
  ((fX5_all e8).bind fun q9 =>
  ((fX5_becomes a3 q9 e8).bind fun q10 =>
  some (q10.1, q10.2))))))))))))
set_option maxHeartbeats 4000000 in
set_option maxRecDepth 100000 in
theorem tX5_power {z : ps_X} (C : ps_C z cX5_power 5 "PartSumsModel") (Z : ps_Z z 3 68) {a1 : Int32} {a2 : Int32} {a3 : Int32} {σ : ps_S}  {r : Int32 × ps_S} (h : fX5_power a1 a2 a3 σ = some r) (k : ps_KI z 5 cX5_power r.1 r.2) : ps_at z 5 0 [(0, .ref (z_ad z 45)), (1, .int a1), (2, .int a2), (3, .int a3)] [] σ := by
  unfold fX5_power at h
  refine ps_aload_n C (pc := 0) dX5_power_0 0 rfl ?_
  refine ps_iconst C (pc := 1) (v := 0) dX5_power_1 (by decide) ?_
  refine pp_45_0 C (pc := 2) tw_796 dX5_power_2 h (fun σ1 h => ?_)
  refine ps_aload_n C (pc := 5) dX5_power_5 0 rfl ?_
  refine ps_iload_n C (pc := 6) dX5_power_6 1 rfl ?_
  obtain ⟨q2, hq2, h⟩ := ps_bd h
  refine ps_callVI C Z (pc := 7) (As := [.int a1]) (k0 := 45) (mX5_isRow  hq2) (Cn := "PartSumsModel") rfl tw_982 tw_984 tw_42 tw_70 tw_985 hdX5_isRow rfl rfl ⟨by decide, by decide⟩ (by decide) ps_o45 rfl rfl (Nat.le_of_ble_eq_true rfl) dX5_power_7 rfl ?_
  refine ps_if_eq C (pc := 10) 31 dX5_power_10 (by decide) (fun hc => ?_) (fun hc => ?_)
  · have h := ps_ift hc h
    refine ps_iconst C (pc := 31) (v := -1) dX5_power_31 (by decide) ?_
    obtain rfl := Option.some.inj h
    exact k _ _ dX5_power_32
  · have h := ps_iff hc h
    refine ps_aload_n C (pc := 13) dX5_power_13 0 rfl ?_
    refine ps_iload_n C (pc := 14) dX5_power_14 3 rfl ?_
    obtain ⟨q3, hq3, h⟩ := ps_bd h
    refine ps_callVI C Z (pc := 15) (As := [.int a3]) (k0 := 45) (mX5_isRow  hq3) (Cn := "PartSumsModel") rfl tw_982 tw_984 tw_42 tw_70 tw_985 hdX5_isRow rfl rfl ⟨by decide, by decide⟩ (by decide) ps_o45 rfl rfl (Nat.le_of_ble_eq_true rfl) dX5_power_15 rfl ?_
    refine ps_if_eq C (pc := 18) 31 dX5_power_18 (by decide) (fun hc => ?_) (fun hc => ?_)
    · have h := ps_ift hc h
      refine ps_iconst C (pc := 31) (v := -1) dX5_power_31 (by decide) ?_
      obtain rfl := Option.some.inj h
      exact k _ _ dX5_power_32
    · have h := ps_iff hc h
      refine ps_iload_n C (pc := 21) dX5_power_21 2 rfl ?_
      refine ps_iconst C (pc := 22) (v := 0) dX5_power_22 (by decide) ?_
      refine ps_bipush C (pc := 23) (v := 99) dX5_power_23 (by decide) ?_
      obtain ⟨q4, hq4, h⟩ := ps_bd h
      refine ps_callSI C Z (pc := 25) (As := [.int a2, .int (0 : Int32), .int (99 : Int32)]) (mX5_isIn  hq4) tw_904 tw_905 tw_70 tw_906 hdX5_isIn rfl rfl ⟨by decide, by decide⟩ rfl (Nat.le_of_ble_eq_true rfl) dX5_power_25 rfl ?_
      refine ps_if_ne C (pc := 28) 33 dX5_power_28 (by decide) (fun hc => ?_) (fun hc => ?_)
      · have h := ps_iff hc h
        refine ps_aload_n C (pc := 33) dX5_power_33 0 rfl ?_
        obtain ⟨q5, hq5, h⟩ := ps_bd h
        refine ps_callVV C Z (pc := 34) (As := []) (k0 := 45) (mX5_laysOne  hq5) (Cn := "PartSumsModel") rfl tw_1053 tw_1055 tw_52 tw_70 tw_1056 hdX5_laysOne rfl rfl ⟨by decide, by decide⟩ (by decide) ps_o45 rfl rfl (Nat.le_of_ble_eq_true rfl) dX5_power_34 rfl ?_
        refine ps_iconst C (pc := 37) (v := 0) dX5_power_37 (by decide) ?_
        refine ps_istore C (pc := 38) (lv' := [(4, .int (0 : Int32)), (0, .ref (z_ad z 45)), (1, .int a1), (2, .int a2), (3, .int a3)]) dX5_power_38 (by decide) rfl ?_
        obtain ⟨e8, he8, h⟩ := ps_bd h
        refine ps_sub [1, 2, 3, 4, 0] rfl ?_
        refine ps_loop (P := pX5_power_S40 z a1 a2 a3) (K := qX5_power_S40 z a1 a2 a3) (fun s r h k => tX5_power_S40 C Z a1 a2 a3  s r h k) _ _ _ he8 ?_
        unfold qX5_power_S40
        refine ps_aload_n C (pc := 57) dX5_power_57 0 rfl ?_
        refine ps_iload_n C (pc := 58) dX5_power_58 1 rfl ?_
        refine ps_aload_n C (pc := 59) dX5_power_59 0 rfl ?_
        obtain ⟨q9, hq9, h⟩ := ps_bd h
        refine ps_callVI C Z (pc := 60) (As := []) (k0 := 45) (mX5_all  hq9) (Cn := "PartSumsModel") rfl tw_954 tw_956 tw_38 tw_70 tw_957 hdX5_all rfl rfl ⟨by decide, by decide⟩ (by decide) ps_o45 rfl rfl (Nat.le_of_ble_eq_true rfl) dX5_power_60 rfl ?_
        obtain ⟨q10, hq10, h⟩ := ps_bd h
        refine ps_callVI C Z (pc := 63) (As := [.int a3, .int q9]) (k0 := 45) (mX5_becomes  hq10) (Cn := "PartSumsModel") rfl tw_1018 tw_1020 tw_48 tw_70 tw_1021 hdX5_becomes rfl rfl ⟨by decide, by decide⟩ (by decide) ps_o45 rfl rfl (Nat.le_of_ble_eq_true rfl) dX5_power_63 rfl ?_
        obtain rfl := Option.some.inj h
        exact k _ _ dX5_power_66
      · have h := ps_ift hc h
        refine ps_iconst C (pc := 31) (v := -1) dX5_power_31 (by decide) ?_
        obtain rfl := Option.some.inj h
        exact k _ _ dX5_power_32
def rmX5_power : Room := { frames := 3, cells := 0, slots := 0, locals := 68 }
theorem mX5_power {l : Launch} {E : ps_E} {σ : ps_S} {a1 : Int32} {a2 : Int32} {a3 : Int32} {r : Int32 × ps_S}  (h : fX5_power a1 a2 a3 σ = some r) : ps_MI l yX5_power (ps_wm yX5_power cX5_power 5 (some .int)) rmX5_power [.ref (e_ad E 45), .int a1, .int a2, .int a3] E σ r.1 r.2 :=
  ps_metI yX5_power rmX5_power 5 (own := "PartSumsModel") r.1 (by decide +kernel) rfl (Nat.le_of_ble_eq_true rfl) rfl (fun z e1 e2 e3 e4 e5 C k => by
    subst e5
    exact tX5_power C (ps_Zof e1 e3 e4)  h k)
theorem hdX5_power : yX5_power.cls ≠ "java/lang/invoke/MethodHandle" ∧ yX5_power.cls ≠ "java/lang/invoke/VarHandle" ∧ (parseMethodDescriptor yX5_power.desc).map (fun d => d.parameters.length) = some 3 := by decide +kernel
def pX5_turned_S9 (z : ps_X)  (σ : ps_S) (s : Int64 × Int64 × Int32) : Prop := ps_at z 7 9 [(2, .long s.1), (4, .long s.2.1), (6, .int s.2.2)] [] σ
def qX5_turned_S9 (z : ps_X)  (σ : ps_S) (x : (Int64)) : Prop := match x with | y => ps_at z 7 49 [(4, .long y)] [] σ
def fX5_turned_J32 (a2 : Int64) (a4 : Int64) (a6 : Int32) : Option ((Int64 × Int64 × Int32) ⊕ ((Int64))) :=
  (ps_let ((a2 * a2) - (a2 * a2) / (1000003 : Int64) * (1000003 : Int64)) fun x1 =>
  (ps_let (a6 >>> ((1 : Int32) &&& 31)) fun x2 =>
  some (.inl (x1, a4, x2))))
set_option maxHeartbeats 4000000 in
set_option maxRecDepth 100000 in
theorem tX5_turned_J32 {z : ps_X} (C : ps_C z cX5_turned 7 "PartSumsModel") (Z : ps_Z z 0 0) {a2 : Int64} {a4 : Int64} {a6 : Int32}  {σ : ps_S} {r : (Int64 × Int64 × Int32) ⊕ ((Int64))} (h : fX5_turned_J32 a2 a4 a6 = some r) (k : ps_k (pX5_turned_S9 z σ) (qX5_turned_S9 z σ) r) : ps_at z 7 32 [(2, .long a2), (4, .long a4), (6, .int a6)] [] σ := by
  unfold fX5_turned_J32 at h
  refine ps_lload_n C (pc := 32) dX5_turned_32 0 rfl ?_
  refine ps_lload_n C (pc := 33) dX5_turned_33 0 rfl ?_
  refine ps_lmul C (pc := 34) dX5_turned_34 ?_
  refine ps_ldc2 C (pc := 35) tw_1001 dX5_turned_35 ?_
  refine ps_lrem C (pc := 38) dX5_turned_38 (by decide) ?_
  refine ps_lstoreL_n C (pc := 39) (lw := fun x1 => [(2, .long x1), (4, .long a4), (6, .int a6)]) dX5_turned_39 (by decide) (fun _ => rfl) h (fun x1 h => ?_)
  refine ps_iload C (pc := 40) dX5_turned_40 2 rfl ?_
  refine ps_iconst C (pc := 42) (v := 1) dX5_turned_42 (by decide) ?_
  refine ps_ishr C (pc := 43) dX5_turned_43 ?_
  refine ps_istoreL C (pc := 44) (lw := fun x2 => [(6, .int x2), (2, .long x1), (4, .long a4)]) dX5_turned_44 (by decide) (fun _ => rfl) h (fun x2 h => ?_)
  refine ps_goto C (pc := 46) 9 dX5_turned_46 (by decide) ?_
  obtain rfl := Option.some.inj h
  exact ps_sub [1, 2, 0] rfl k
def fX5_turned_S9  (a2 : Int64) (a4 : Int64) (a6 : Int32) : Option ((Int64 × Int64 × Int32) ⊕ ((Int64))) :=
  (if a6 ≤ 0 then some (.inr a4)
  else (if (a6 &&& (1 : Int32)) = (1 : Int32) then (ps_let ((a4 * a2) - (a4 * a2) / (1000003 : Int64) * (1000003 : Int64)) fun x3 =>
  fX5_turned_J32 a2 x3 a6)
  else fX5_turned_J32 a2 a4 a6))
set_option maxHeartbeats 4000000 in
set_option maxRecDepth 100000 in
theorem tX5_turned_S9 {z : ps_X} (C : ps_C z cX5_turned 7 "PartSumsModel") (Z : ps_Z z 0 0)   (σ : ps_S) (s : Int64 × Int64 × Int32) (r : (Int64 × Int64 × Int32) ⊕ ((Int64))) (h : fX5_turned_S9  s.1 s.2.1 s.2.2 = some r) (k : ps_k (pX5_turned_S9 z σ) (qX5_turned_S9 z σ) r) : pX5_turned_S9 z σ s := by
  obtain ⟨a2, a4, a6⟩ := s
  unfold fX5_turned_S9 at h
  unfold pX5_turned_S9
  refine ps_iload C (pc := 9) dX5_turned_9 2 rfl ?_
  refine ps_if_le C (pc := 11) 49 dX5_turned_11 (by decide) (fun hc => ?_) (fun hc => ?_)
  · have h := ps_ift hc h
    obtain rfl := Option.some.inj h
    exact ps_sub [1] rfl k
  · have h := ps_iff hc h
    refine ps_iload C (pc := 14) dX5_turned_14 2 rfl ?_
    refine ps_iconst C (pc := 16) (v := 1) dX5_turned_16 (by decide) ?_
    refine ps_iand C (pc := 17) dX5_turned_17 ?_
    refine ps_iconst C (pc := 18) (v := 1) dX5_turned_18 (by decide) ?_
    refine ps_icmp_ne C (pc := 19) 32 dX5_turned_19 (by decide) (fun hc => ?_) (fun hc => ?_)
    · have h := ps_iff hc h
      exact ps_sub [0, 1, 2] rfl (tX5_turned_J32 C Z  h k)
    · have h := ps_ift hc h
      refine ps_lload C (pc := 22) dX5_turned_22 1 rfl ?_
      refine ps_lload_n C (pc := 24) dX5_turned_24 0 rfl ?_
      refine ps_lmul C (pc := 25) dX5_turned_25 ?_
      refine ps_ldc2 C (pc := 26) tw_1001 dX5_turned_26 ?_
      refine ps_lrem C (pc := 29) dX5_turned_29 (by decide) ?_
      refine ps_lstoreL C (pc := 30) (lw := fun x3 => [(4, .long x3), (2, .long a2), (6, .int a6)]) dX5_turned_30 (by decide) (fun _ => rfl) h (fun x3 h => ?_)
      exact ps_sub [1, 0, 2] rfl (tX5_turned_J32 C Z  h k)
def fX5_turned (a0 : Int64) : Option (Int64) :=
  ((ps_lp (fun s => fX5_turned_S9  s.1 s.2.1 s.2.2) 100000 (a0, (1 : Int64), (1000001 : Int32))).bind fun e4 =>
  some e4)
set_option maxHeartbeats 4000000 in
set_option maxRecDepth 100000 in
theorem tX5_turned {z : ps_X} (C : ps_C z cX5_turned 7 "PartSumsModel") (Z : ps_Z z 0 0) {a0 : Int64}  {σ : ps_S} {r : Int64} (h : fX5_turned a0 = some r) (k : ps_KL z 7 cX5_turned r σ) : ps_at z 7 0 [(0, .long a0)] [] σ := by
  unfold fX5_turned at h
  refine ps_lload_n C (pc := 0) dX5_turned_0 0 rfl ?_
  refine ps_lstore_n C (pc := 1) (lv' := [(2, .long a0), (0, .long a0)]) dX5_turned_1 (by decide) rfl ?_
  refine ps_lconst C (pc := 2) (v := 1) dX5_turned_2 (by decide) ?_
  refine ps_lstore C (pc := 3) (lv' := [(4, .long (1 : Int64)), (2, .long a0), (0, .long a0)]) dX5_turned_3 (by decide) rfl ?_
  refine ps_ldc C (pc := 5) tw_1068 dX5_turned_5 ?_
  refine ps_istore C (pc := 7) (lv' := [(6, .int (1000001 : Int32)), (4, .long (1 : Int64)), (2, .long a0), (0, .long a0)]) dX5_turned_7 (by decide) rfl ?_
  obtain ⟨e4, he4, h⟩ := ps_bd h
  refine ps_sub [2, 1, 0] rfl ?_
  refine ps_loop (P := pX5_turned_S9 z σ) (K := qX5_turned_S9 z σ) (fun s r h k => tX5_turned_S9 C Z   σ s r h k) _ _ _ he4 ?_
  unfold qX5_turned_S9
  refine ps_lload C (pc := 49) dX5_turned_49 0 rfl ?_
  obtain rfl := Option.some.inj h
  exact k _ _ dX5_turned_51
def rmX5_turned : Room := { frames := 0, cells := 0, slots := 0, locals := 0 }
theorem mX5_turned {l : Launch} {E : ps_E} {σ : ps_S} {a0 : Int64} {r : Int64}  (h : fX5_turned a0 = some r) : ps_ML l yX5_turned (ps_wm yX5_turned cX5_turned 7 (some .long)) rmX5_turned [.long a0] E σ r σ :=
  ps_metL yX5_turned rmX5_turned 7 (own := "PartSumsModel") r (by decide +kernel) rfl (Nat.le_of_ble_eq_true rfl) rfl (fun z e1 e2 e3 e4 e5 C k => by
    subst e5
    exact tX5_turned C (ps_Zof e1 e3 e4)  h k)
theorem hdX5_turned : yX5_turned.cls ≠ "java/lang/invoke/MethodHandle" ∧ yX5_turned.cls ≠ "java/lang/invoke/VarHandle" ∧ (parseMethodDescriptor yX5_turned.desc).map (fun d => d.parameters.length) = some 1 := by decide +kernel
def pX5_inverse_S54 (z : ps_X) (a1 : Int32) (a2 : Int32) (a3 : Int64) (s : Int32 × ps_S) : Prop := ps_at z 9 54 [(0, .ref (z_ad z 45)), (1, .int a1), (2, .int a2), (3, .long a3), (5, .int s.1)] [] s.2
def qX5_inverse_S54 (z : ps_X) (a1 : Int32) (a2 : Int32) (a3 : Int64) (x : (ps_S)) : Prop := match x with | y => ps_at z 9 143 [(0, .ref (z_ad z 45)), (2, .int a2)] [] y
def pX5_inverse_S70 (z : ps_X) (a1 : Int32) (a2 : Int32) (a3 : Int64) (a5 : Int32) (σ : ps_S) (s : Int64 × Int32) : Prop := ps_at z 9 70 [(0, .ref (z_ad z 45)), (1, .int a1), (2, .int a2), (3, .long a3), (5, .int a5), (6, .long s.1), (8, .int s.2)] [] σ
def qX5_inverse_S70 (z : ps_X) (a1 : Int32) (a2 : Int32) (a3 : Int64) (a5 : Int32) (σ : ps_S) (x : (Int64)) : Prop := match x with | y => ps_at z 9 118 [(0, .ref (z_ad z 45)), (1, .int a1), (2, .int a2), (3, .long a3), (5, .int a5), (6, .long y)] [] σ
def fX5_inverse_S70 (a1 : Int32) (a2 : Int32) (a3 : Int64) (a5 : Int32) (σ : ps_S) (a6 : Int64) (a8 : Int32) : Option ((Int64 × Int32) ⊕ ((Int64))) :=
  (if a8 ≤ 0 then some (.inr a6)
  else ((fX5_numberOf a1 a8 σ).bind fun q10 =>
  (ps_ck (a5 &&& (a8 ^^^ (-1 : Int32))) 256 ((ps_let (a6 + (((Int32.toInt64 q10) * (Int32.toInt64 (σ.1 52 (Int32.toNatClampNeg (a5 &&& (a8 ^^^ (-1 : Int32))))))) - ((Int32.toInt64 q10) * (Int32.toInt64 (σ.1 52 (Int32.toNatClampNeg (a5 &&& (a8 ^^^ (-1 : Int32))))))) / (1000003 : Int64) * (1000003 : Int64))) fun x12 =>
  (ps_let ((a8 - (1 : Int32)) &&& a5) fun x13 =>
  some (.inl (x12, x13))))))))
set_option maxHeartbeats 4000000 in
set_option maxRecDepth 100000 in
theorem tX5_inverse_S70 {z : ps_X} (C : ps_C z cX5_inverse 9 "PartSumsModel") (Z : ps_Z z 3 68) (a1 : Int32) (a2 : Int32) (a3 : Int64) (a5 : Int32) (σ : ps_S)  (s : Int64 × Int32) (r : (Int64 × Int32) ⊕ ((Int64))) (h : fX5_inverse_S70 a1 a2 a3 a5 σ s.1 s.2 = some r) (k : ps_k (pX5_inverse_S70 z a1 a2 a3 a5 σ) (qX5_inverse_S70 z a1 a2 a3 a5 σ) r) : pX5_inverse_S70 z a1 a2 a3 a5 σ s := by
  obtain ⟨a6, a8⟩ := s
  unfold fX5_inverse_S70 at h
  unfold pX5_inverse_S70
  refine ps_iload C (pc := 70) dX5_inverse_70 6 rfl ?_
  refine ps_if_le C (pc := 72) 118 dX5_inverse_72 (by decide) (fun hc => ?_) (fun hc => ?_)
  · have h := ps_ift hc h
    obtain rfl := Option.some.inj h
    exact ps_sub [0, 1, 2, 3, 4, 5] rfl k
  · have h := ps_iff hc h
    refine ps_lload C (pc := 75) dX5_inverse_75 5 rfl ?_
    refine ps_aload_n C (pc := 77) dX5_inverse_77 0 rfl ?_
    refine ps_iload_n C (pc := 78) dX5_inverse_78 1 rfl ?_
    refine ps_iload C (pc := 79) dX5_inverse_79 6 rfl ?_
    obtain ⟨q10, hq10, h⟩ := ps_bd h
    refine ps_callVI C Z (pc := 81) (As := [.int a1, .int a8]) (k0 := 45) (mX5_numberOf  hq10) (Cn := "PartSumsModel") rfl tw_986 tw_988 tw_43 tw_70 tw_989 hdX5_numberOf rfl rfl ⟨by decide, by decide⟩ (by decide) ps_o45 rfl rfl (Nat.le_of_ble_eq_true rfl) dX5_inverse_81 rfl ?_
    refine ps_i2l C (pc := 84) dX5_inverse_84 ?_
    refine ps_aload_n C (pc := 85) dX5_inverse_85 0 rfl ?_
    refine pg_45_16 C (pc := 86) tw_812 dX5_inverse_86 ?_
    refine ps_iload C (pc := 89) dX5_inverse_89 4 rfl ?_
    refine ps_iload C (pc := 91) dX5_inverse_91 6 rfl ?_
    refine ps_iconst C (pc := 93) (v := -1) dX5_inverse_93 (by decide) ?_
    refine ps_ixor C (pc := 94) dX5_inverse_94 ?_
    refine ps_iand C (pc := 95) dX5_inverse_95 ?_
    obtain ⟨hi11, h⟩ := ps_ck_s h
    refine ps_iald C (pc := 96) 52 rfl rfl hi11 dX5_inverse_96 ?_
    refine ps_i2l C (pc := 97) dX5_inverse_97 ?_
    refine ps_lmul C (pc := 98) dX5_inverse_98 ?_
    refine ps_ldc2 C (pc := 99) tw_1001 dX5_inverse_99 ?_
    refine ps_lrem C (pc := 102) dX5_inverse_102 (by decide) ?_
    refine ps_ladd C (pc := 103) dX5_inverse_103 ?_
    refine ps_lstoreL C (pc := 104) (lw := fun x12 => [(6, .long x12), (0, .ref (z_ad z 45)), (1, .int a1), (2, .int a2), (3, .long a3), (5, .int a5), (8, .int a8)]) dX5_inverse_104 (by decide) (fun _ => rfl) h (fun x12 h => ?_)
    refine ps_iload C (pc := 106) dX5_inverse_106 6 rfl ?_
    refine ps_iconst C (pc := 108) (v := 1) dX5_inverse_108 (by decide) ?_
    refine ps_isub C (pc := 109) dX5_inverse_109 ?_
    refine ps_iload C (pc := 110) dX5_inverse_110 5 rfl ?_
    refine ps_iand C (pc := 112) dX5_inverse_112 ?_
    refine ps_istoreL C (pc := 113) (lw := fun x13 => [(8, .int x13), (6, .long x12), (0, .ref (z_ad z 45)), (1, .int a1), (2, .int a2), (3, .long a3), (5, .int a5)]) dX5_inverse_113 (by decide) (fun _ => rfl) h (fun x13 h => ?_)
    refine ps_goto C (pc := 115) 70 dX5_inverse_115 (by decide) ?_
    obtain rfl := Option.some.inj h
    exact ps_sub [2, 3, 4, 5, 6, 1, 0] rfl k
def fX5_inverse_S54 (a1 : Int32) (a2 : Int32) (a3 : Int64) (a5 : Int32) (σ : ps_S) : Option ((Int32 × ps_S) ⊕ ((ps_S))) :=
  ((fX5_all σ).bind fun q9 =>
  (if q9 < a5 then some (.inr σ)
  else ((ps_lp (fun s => fX5_inverse_S70 a1 a2 a3 a5 σ s.1 s.2) 100000 ((0 : Int64), a5)).bind fun e14 =>
  ((fX5_rest ((-(e14 - e14 / (1000003 : Int64) * (1000003 : Int64))) * a3)).bind fun q15 =>
  (ps_ck a5 256 ((ps_let (ps_ui σ 52 (Int32.toNatClampNeg a5) q15) fun σ17 =>
  (ps_let (a5 + (1 : Int32)) fun x18 =>
  some (.inl (x18, σ17))))))))))
set_option maxHeartbeats 4000000 in
set_option maxRecDepth 100000 in
theorem tX5_inverse_S54 {z : ps_X} (C : ps_C z cX5_inverse 9 "PartSumsModel") (Z : ps_Z z 3 68) (a1 : Int32) (a2 : Int32) (a3 : Int64)  (s : Int32 × ps_S) (r : (Int32 × ps_S) ⊕ ((ps_S))) (h : fX5_inverse_S54 a1 a2 a3 s.1 s.2 = some r) (k : ps_k (pX5_inverse_S54 z a1 a2 a3) (qX5_inverse_S54 z a1 a2 a3) r) : pX5_inverse_S54 z a1 a2 a3 s := by
  obtain ⟨a5, σ⟩ := s
  unfold fX5_inverse_S54 at h
  unfold pX5_inverse_S54
  refine ps_iload C (pc := 54) dX5_inverse_54 4 rfl ?_
  refine ps_aload_n C (pc := 56) dX5_inverse_56 0 rfl ?_
  obtain ⟨q9, hq9, h⟩ := ps_bd h
  refine ps_callVI C Z (pc := 57) (As := []) (k0 := 45) (mX5_all  hq9) (Cn := "PartSumsModel") rfl tw_954 tw_956 tw_38 tw_70 tw_957 hdX5_all rfl rfl ⟨by decide, by decide⟩ (by decide) ps_o45 rfl rfl (Nat.le_of_ble_eq_true rfl) dX5_inverse_57 rfl ?_
  refine ps_icmp_gt C (pc := 60) 143 dX5_inverse_60 (by decide) (fun hc => ?_) (fun hc => ?_)
  · have h := ps_ift hc h
    obtain rfl := Option.some.inj h
    exact ps_sub [0, 2] rfl k
  · have h := ps_iff hc h
    refine ps_lconst C (pc := 63) (v := 0) dX5_inverse_63 (by decide) ?_
    refine ps_lstore C (pc := 64) (lv' := [(6, .long (0 : Int64)), (0, .ref (z_ad z 45)), (1, .int a1), (2, .int a2), (3, .long a3), (5, .int a5)]) dX5_inverse_64 (by decide) rfl ?_
    refine ps_iload C (pc := 66) dX5_inverse_66 5 rfl ?_
    refine ps_istore C (pc := 68) (lv' := [(8, .int a5), (6, .long (0 : Int64)), (0, .ref (z_ad z 45)), (1, .int a1), (2, .int a2), (3, .long a3), (5, .int a5)]) dX5_inverse_68 (by decide) rfl ?_
    obtain ⟨e14, he14, h⟩ := ps_bd h
    refine ps_sub [2, 3, 4, 5, 6, 1, 0] rfl ?_
    refine ps_loop (P := pX5_inverse_S70 z a1 a2 a3 a5 σ) (K := qX5_inverse_S70 z a1 a2 a3 a5 σ) (fun s r h k => tX5_inverse_S70 C Z a1 a2 a3 a5 σ  s r h k) _ _ _ he14 ?_
    unfold qX5_inverse_S70
    refine ps_aload_n C (pc := 118) dX5_inverse_118 0 rfl ?_
    refine pg_45_16 C (pc := 119) tw_812 dX5_inverse_119 ?_
    refine ps_iload C (pc := 122) dX5_inverse_122 4 rfl ?_
    refine ps_lload C (pc := 124) dX5_inverse_124 5 rfl ?_
    refine ps_ldc2 C (pc := 126) tw_1001 dX5_inverse_126 ?_
    refine ps_lrem C (pc := 129) dX5_inverse_129 (by decide) ?_
    refine ps_lneg C (pc := 130) dX5_inverse_130 ?_
    refine ps_lload_n C (pc := 131) dX5_inverse_131 3 rfl ?_
    refine ps_lmul C (pc := 132) dX5_inverse_132 ?_
    obtain ⟨q15, hq15, h⟩ := ps_bd h
    refine ps_callSI C Z (pc := 133) (As := [.long ((-(e14 - e14 / (1000003 : Int64) * (1000003 : Int64))) * a3)]) (mX5_rest  hq15) tw_998 tw_999 tw_70 tw_1000 hdX5_rest rfl rfl ⟨by decide, by decide⟩ rfl (Nat.le_of_ble_eq_true rfl) dX5_inverse_133 rfl ?_
    obtain ⟨hi16, h⟩ := ps_ck_s h
    refine ps_iastL C (pc := 136) 52 rfl rfl hi16 dX5_inverse_136 h (fun σ17 h => ?_)
    refine ps_iincL C (pc := 137) (zz := 1) (lw := fun x18 => [(5, .int x18), (0, .ref (z_ad z 45)), (1, .int a1), (2, .int a2), (3, .long a3), (6, .long e14)]) dX5_inverse_137 4 rfl (by decide) (by decide) (fun _ => rfl) h (fun x18 h => ?_)
    refine ps_goto C (pc := 140) 54 dX5_inverse_140 (by decide) ?_
    obtain rfl := Option.some.inj h
    exact ps_sub [1, 2, 3, 4, 0] rfl k
def fX5_inverse (a1 : Int32) (a2 : Int32) (σ : ps_S) : Option (Int32 × ps_S) :=
  (ps_let (ps_ui σ 45 0 (0 : Int32)) fun σ1 =>
  ((fX5_isRow a1 σ1).bind fun q2 =>
  (if q2 = 0 then some ((-1 : Int32), σ1)
  else ((fX5_isRow a2 σ1).bind fun q3 =>
  (if q3 = 0 then some ((-1 : Int32), σ1)
  else ((fX5_numberOf a1 (0 : Int32) σ1).bind fun q4 =>
  (if q4 = 0 then some ((-1 : Int32), σ1)
  else ((fX5_numberOf a1 (0 : Int32) σ1).bind fun q5 =>
  ((fX5_turned (Int32.toInt64 q5)).bind fun q6 =>
  (ps_ck (0 : Int32) 256 ((ps_let (ps_ui σ1 52 (Int32.toNatClampNeg (0 : Int32)) (Int64.toInt32 q6)) fun σ8 =>
  ((ps_lp (fun s => fX5_inverse_S54 a1 a2 q6 s.1 s.2) 100000 ((1 : Int32), σ8)).bind fun e19 =>
  ((fX5_all e19).bind fun q20 =>
  ((fX5_becomes a2 q20 e19).bind fun q21 =>
  some (q21.1, q21.2))))))))))))))))
set_option maxHeartbeats 4000000 in
set_option maxRecDepth 100000 in
theorem tX5_inverse {z : ps_X} (C : ps_C z cX5_inverse 9 "PartSumsModel") (Z : ps_Z z 3 68) {a1 : Int32} {a2 : Int32} {σ : ps_S}  {r : Int32 × ps_S} (h : fX5_inverse a1 a2 σ = some r) (k : ps_KI z 9 cX5_inverse r.1 r.2) : ps_at z 9 0 [(0, .ref (z_ad z 45)), (1, .int a1), (2, .int a2)] [] σ := by
  unfold fX5_inverse at h
  refine ps_aload_n C (pc := 0) dX5_inverse_0 0 rfl ?_
  refine ps_iconst C (pc := 1) (v := 0) dX5_inverse_1 (by decide) ?_
  refine pp_45_0 C (pc := 2) tw_796 dX5_inverse_2 h (fun σ1 h => ?_)
  refine ps_aload_n C (pc := 5) dX5_inverse_5 0 rfl ?_
  refine ps_iload_n C (pc := 6) dX5_inverse_6 1 rfl ?_
  obtain ⟨q2, hq2, h⟩ := ps_bd h
  refine ps_callVI C Z (pc := 7) (As := [.int a1]) (k0 := 45) (mX5_isRow  hq2) (Cn := "PartSumsModel") rfl tw_982 tw_984 tw_42 tw_70 tw_985 hdX5_isRow rfl rfl ⟨by decide, by decide⟩ (by decide) ps_o45 rfl rfl (Nat.le_of_ble_eq_true rfl) dX5_inverse_7 rfl ?_
  refine ps_if_eq C (pc := 10) 30 dX5_inverse_10 (by decide) (fun hc => ?_) (fun hc => ?_)
  · have h := ps_ift hc h
    refine ps_iconst C (pc := 30) (v := -1) dX5_inverse_30 (by decide) ?_
    obtain rfl := Option.some.inj h
    exact k _ _ dX5_inverse_31
  · have h := ps_iff hc h
    refine ps_aload_n C (pc := 13) dX5_inverse_13 0 rfl ?_
    refine ps_iload_n C (pc := 14) dX5_inverse_14 2 rfl ?_
    obtain ⟨q3, hq3, h⟩ := ps_bd h
    refine ps_callVI C Z (pc := 15) (As := [.int a2]) (k0 := 45) (mX5_isRow  hq3) (Cn := "PartSumsModel") rfl tw_982 tw_984 tw_42 tw_70 tw_985 hdX5_isRow rfl rfl ⟨by decide, by decide⟩ (by decide) ps_o45 rfl rfl (Nat.le_of_ble_eq_true rfl) dX5_inverse_15 rfl ?_
    refine ps_if_eq C (pc := 18) 30 dX5_inverse_18 (by decide) (fun hc => ?_) (fun hc => ?_)
    · have h := ps_ift hc h
      refine ps_iconst C (pc := 30) (v := -1) dX5_inverse_30 (by decide) ?_
      obtain rfl := Option.some.inj h
      exact k _ _ dX5_inverse_31
    · have h := ps_iff hc h
      refine ps_aload_n C (pc := 21) dX5_inverse_21 0 rfl ?_
      refine ps_iload_n C (pc := 22) dX5_inverse_22 1 rfl ?_
      refine ps_iconst C (pc := 23) (v := 0) dX5_inverse_23 (by decide) ?_
      obtain ⟨q4, hq4, h⟩ := ps_bd h
      refine ps_callVI C Z (pc := 24) (As := [.int a1, .int (0 : Int32)]) (k0 := 45) (mX5_numberOf  hq4) (Cn := "PartSumsModel") rfl tw_986 tw_988 tw_43 tw_70 tw_989 hdX5_numberOf rfl rfl ⟨by decide, by decide⟩ (by decide) ps_o45 rfl rfl (Nat.le_of_ble_eq_true rfl) dX5_inverse_24 rfl ?_
      refine ps_if_ne C (pc := 27) 32 dX5_inverse_27 (by decide) (fun hc => ?_) (fun hc => ?_)
      · have h := ps_iff hc h
        refine ps_aload_n C (pc := 32) dX5_inverse_32 0 rfl ?_
        refine ps_iload_n C (pc := 33) dX5_inverse_33 1 rfl ?_
        refine ps_iconst C (pc := 34) (v := 0) dX5_inverse_34 (by decide) ?_
        obtain ⟨q5, hq5, h⟩ := ps_bd h
        refine ps_callVI C Z (pc := 35) (As := [.int a1, .int (0 : Int32)]) (k0 := 45) (mX5_numberOf  hq5) (Cn := "PartSumsModel") rfl tw_986 tw_988 tw_43 tw_70 tw_989 hdX5_numberOf rfl rfl ⟨by decide, by decide⟩ (by decide) ps_o45 rfl rfl (Nat.le_of_ble_eq_true rfl) dX5_inverse_35 rfl ?_
        refine ps_i2l C (pc := 38) dX5_inverse_38 ?_
        obtain ⟨q6, hq6, h⟩ := ps_bd h
        refine ps_callSL C Z (pc := 39) (As := [.long (Int32.toInt64 q5)]) (mX5_turned  hq6) tw_1065 tw_1066 tw_70 tw_1067 hdX5_turned rfl rfl ⟨by decide, by decide⟩ rfl (Nat.le_of_ble_eq_true rfl) dX5_inverse_39 rfl ?_
        refine ps_lstore_n C (pc := 42) (lv' := [(3, .long q6), (0, .ref (z_ad z 45)), (1, .int a1), (2, .int a2)]) dX5_inverse_42 (by decide) rfl ?_
        refine ps_aload_n C (pc := 43) dX5_inverse_43 1 rfl ?_
        refine pg_45_16 C (pc := 44) tw_812 dX5_inverse_44 ?_
        refine ps_iconst C (pc := 47) (v := 0) dX5_inverse_47 (by decide) ?_
        refine ps_lload_n C (pc := 48) dX5_inverse_48 0 rfl ?_
        refine ps_l2i C (pc := 49) dX5_inverse_49 ?_
        obtain ⟨hi7, h⟩ := ps_ck_s h
        refine ps_iastL C (pc := 50) 52 rfl rfl hi7 dX5_inverse_50 h (fun σ8 h => ?_)
        refine ps_iconst C (pc := 51) (v := 1) dX5_inverse_51 (by decide) ?_
        refine ps_istore C (pc := 52) (lv' := [(5, .int (1 : Int32)), (3, .long q6), (0, .ref (z_ad z 45)), (1, .int a1), (2, .int a2)]) dX5_inverse_52 (by decide) rfl ?_
        obtain ⟨e19, he19, h⟩ := ps_bd h
        refine ps_sub [2, 3, 4, 1, 0] rfl ?_
        refine ps_loop (P := pX5_inverse_S54 z a1 a2 q6) (K := qX5_inverse_S54 z a1 a2 q6) (fun s r h k => tX5_inverse_S54 C Z a1 a2 q6  s r h k) _ _ _ he19 ?_
        unfold qX5_inverse_S54
        refine ps_aload_n C (pc := 143) dX5_inverse_143 0 rfl ?_
        refine ps_iload_n C (pc := 144) dX5_inverse_144 1 rfl ?_
        refine ps_aload_n C (pc := 145) dX5_inverse_145 0 rfl ?_
        obtain ⟨q20, hq20, h⟩ := ps_bd h
        refine ps_callVI C Z (pc := 146) (As := []) (k0 := 45) (mX5_all  hq20) (Cn := "PartSumsModel") rfl tw_954 tw_956 tw_38 tw_70 tw_957 hdX5_all rfl rfl ⟨by decide, by decide⟩ (by decide) ps_o45 rfl rfl (Nat.le_of_ble_eq_true rfl) dX5_inverse_146 rfl ?_
        obtain ⟨q21, hq21, h⟩ := ps_bd h
        refine ps_callVI C Z (pc := 149) (As := [.int a2, .int q20]) (k0 := 45) (mX5_becomes  hq21) (Cn := "PartSumsModel") rfl tw_1018 tw_1020 tw_48 tw_70 tw_1021 hdX5_becomes rfl rfl ⟨by decide, by decide⟩ (by decide) ps_o45 rfl rfl (Nat.le_of_ble_eq_true rfl) dX5_inverse_149 rfl ?_
        obtain rfl := Option.some.inj h
        exact k _ _ dX5_inverse_152
      · have h := ps_ift hc h
        refine ps_iconst C (pc := 30) (v := -1) dX5_inverse_30 (by decide) ?_
        obtain rfl := Option.some.inj h
        exact k _ _ dX5_inverse_31
def rmX5_inverse : Room := { frames := 3, cells := 0, slots := 0, locals := 68 }
theorem mX5_inverse {l : Launch} {E : ps_E} {σ : ps_S} {a1 : Int32} {a2 : Int32} {r : Int32 × ps_S}  (h : fX5_inverse a1 a2 σ = some r) : ps_MI l yX5_inverse (ps_wm yX5_inverse cX5_inverse 9 (some .int)) rmX5_inverse [.ref (e_ad E 45), .int a1, .int a2] E σ r.1 r.2 :=
  ps_metI yX5_inverse rmX5_inverse 9 (own := "PartSumsModel") r.1 (by decide +kernel) rfl (Nat.le_of_ble_eq_true rfl) rfl (fun z e1 e2 e3 e4 e5 C k => by
    subst e5
    exact tX5_inverse C (ps_Zof e1 e3 e4)  h k)
theorem hdX5_inverse : yX5_inverse.cls ≠ "java/lang/invoke/MethodHandle" ∧ yX5_inverse.cls ≠ "java/lang/invoke/VarHandle" ∧ (parseMethodDescriptor yX5_inverse.desc).map (fun d => d.parameters.length) = some 2 := by decide +kernel
def pX5_allWays_S41 (z : ps_X) (a1 : Int32) (a2 : Int32) (s : Int32 × ps_S) : Prop := ps_at z 7 41 [(0, .ref (z_ad z 45)), (1, .int a1), (2, .int a2), (3, .int s.1)] [] s.2
def qX5_allWays_S41 (z : ps_X) (a1 : Int32) (a2 : Int32) (x : (ps_S)) : Prop := match x with | y => ps_at z 7 128 [(0, .ref (z_ad z 45)), (2, .int a2)] [] y
def pX5_allWays_S55 (z : ps_X) (a1 : Int32) (a2 : Int32) (a3 : Int32) (σ : ps_S) (s : Int64 × Int32) : Prop := ps_at z 7 55 [(0, .ref (z_ad z 45)), (1, .int a1), (2, .int a2), (3, .int a3), (4, .long s.1), (6, .int s.2)] [] σ
def qX5_allWays_S55 (z : ps_X) (a1 : Int32) (a2 : Int32) (a3 : Int32) (σ : ps_S) (x : (Int64)) : Prop := match x with | y => ps_at z 7 111 [(0, .ref (z_ad z 45)), (1, .int a1), (2, .int a2), (3, .int a3), (4, .long y)] [] σ
def fX5_allWays_J100 (a1 : Int32) (a2 : Int32) (a3 : Int32) (a4 : Int64) (a6 : Int32) (σ : ps_S) : Option ((Int64 × Int32) ⊕ ((Int64))) :=
  (ps_let ((a6 - (1 : Int32)) &&& a3) fun x8 =>
  some (.inl (a4, x8)))
set_option maxHeartbeats 4000000 in
set_option maxRecDepth 100000 in
theorem tX5_allWays_J100 {z : ps_X} (C : ps_C z cX5_allWays 7 "PartSumsModel") (Z : ps_Z z 3 68) {a1 : Int32} {a2 : Int32} {a3 : Int32} {a4 : Int64} {a6 : Int32} {σ : ps_S}  {r : (Int64 × Int32) ⊕ ((Int64))} (h : fX5_allWays_J100 a1 a2 a3 a4 a6 σ = some r) (k : ps_k (pX5_allWays_S55 z a1 a2 a3 σ) (qX5_allWays_S55 z a1 a2 a3 σ) r) : ps_at z 7 100 [(0, .ref (z_ad z 45)), (1, .int a1), (2, .int a2), (3, .int a3), (4, .long a4), (6, .int a6)] [] σ := by
  unfold fX5_allWays_J100 at h
  refine ps_iload C (pc := 100) dX5_allWays_100 5 rfl ?_
  refine ps_iconst C (pc := 102) (v := 1) dX5_allWays_102 (by decide) ?_
  refine ps_isub C (pc := 103) dX5_allWays_103 ?_
  refine ps_iload_n C (pc := 104) dX5_allWays_104 3 rfl ?_
  refine ps_iand C (pc := 105) dX5_allWays_105 ?_
  refine ps_istoreL C (pc := 106) (lw := fun x8 => [(6, .int x8), (0, .ref (z_ad z 45)), (1, .int a1), (2, .int a2), (3, .int a3), (4, .long a4)]) dX5_allWays_106 (by decide) (fun _ => rfl) h (fun x8 h => ?_)
  refine ps_goto C (pc := 108) 55 dX5_allWays_108 (by decide) ?_
  obtain rfl := Option.some.inj h
  exact ps_sub [1, 2, 3, 4, 5, 0] rfl k
def fX5_allWays_S55 (a1 : Int32) (a2 : Int32) (a3 : Int32) (σ : ps_S) (a4 : Int64) (a6 : Int32) : Option ((Int64 × Int32) ⊕ ((Int64))) :=
  (if a6 ≤ 0 then some (.inr a4)
  else (if ((a6 &&& a3) &&& (-a3)) = 0 then fX5_allWays_J100 a1 a2 a3 a4 a6 σ
  else ((fX5_numberOf a1 a6 σ).bind fun q9 =>
  (ps_ck (a3 &&& (a6 ^^^ (-1 : Int32))) 256 ((ps_let (a4 + (((Int32.toInt64 q9) * (Int32.toInt64 (σ.1 52 (Int32.toNatClampNeg (a3 &&& (a6 ^^^ (-1 : Int32))))))) - ((Int32.toInt64 q9) * (Int32.toInt64 (σ.1 52 (Int32.toNatClampNeg (a3 &&& (a6 ^^^ (-1 : Int32))))))) / (1000003 : Int64) * (1000003 : Int64))) fun x11 =>
  fX5_allWays_J100 a1 a2 a3 x11 a6 σ))))))
set_option maxHeartbeats 4000000 in
set_option maxRecDepth 100000 in
theorem tX5_allWays_S55 {z : ps_X} (C : ps_C z cX5_allWays 7 "PartSumsModel") (Z : ps_Z z 3 68) (a1 : Int32) (a2 : Int32) (a3 : Int32) (σ : ps_S)  (s : Int64 × Int32) (r : (Int64 × Int32) ⊕ ((Int64))) (h : fX5_allWays_S55 a1 a2 a3 σ s.1 s.2 = some r) (k : ps_k (pX5_allWays_S55 z a1 a2 a3 σ) (qX5_allWays_S55 z a1 a2 a3 σ) r) : pX5_allWays_S55 z a1 a2 a3 σ s := by
  obtain ⟨a4, a6⟩ := s
  unfold fX5_allWays_S55 at h
  unfold pX5_allWays_S55
  refine ps_iload C (pc := 55) dX5_allWays_55 5 rfl ?_
  refine ps_if_le C (pc := 57) 111 dX5_allWays_57 (by decide) (fun hc => ?_) (fun hc => ?_)
  · have h := ps_ift hc h
    obtain rfl := Option.some.inj h
    exact ps_sub [0, 1, 2, 3, 4] rfl k
  · have h := ps_iff hc h
    refine ps_iload C (pc := 60) dX5_allWays_60 5 rfl ?_
    refine ps_iload_n C (pc := 62) dX5_allWays_62 3 rfl ?_
    refine ps_iand C (pc := 63) dX5_allWays_63 ?_
    refine ps_iload_n C (pc := 64) dX5_allWays_64 3 rfl ?_
    refine ps_ineg C (pc := 65) dX5_allWays_65 ?_
    refine ps_iand C (pc := 66) dX5_allWays_66 ?_
    refine ps_if_eq C (pc := 67) 100 dX5_allWays_67 (by decide) (fun hc => ?_) (fun hc => ?_)
    · have h := ps_ift hc h
      exact ps_sub [0, 1, 2, 3, 4, 5] rfl (tX5_allWays_J100 C Z  h k)
    · have h := ps_iff hc h
      refine ps_lload C (pc := 70) dX5_allWays_70 4 rfl ?_
      refine ps_aload_n C (pc := 72) dX5_allWays_72 0 rfl ?_
      refine ps_iload_n C (pc := 73) dX5_allWays_73 1 rfl ?_
      refine ps_iload C (pc := 74) dX5_allWays_74 5 rfl ?_
      obtain ⟨q9, hq9, h⟩ := ps_bd h
      refine ps_callVI C Z (pc := 76) (As := [.int a1, .int a6]) (k0 := 45) (mX5_numberOf  hq9) (Cn := "PartSumsModel") rfl tw_986 tw_988 tw_43 tw_70 tw_989 hdX5_numberOf rfl rfl ⟨by decide, by decide⟩ (by decide) ps_o45 rfl rfl (Nat.le_of_ble_eq_true rfl) dX5_allWays_76 rfl ?_
      refine ps_i2l C (pc := 79) dX5_allWays_79 ?_
      refine ps_aload_n C (pc := 80) dX5_allWays_80 0 rfl ?_
      refine pg_45_16 C (pc := 81) tw_812 dX5_allWays_81 ?_
      refine ps_iload_n C (pc := 84) dX5_allWays_84 3 rfl ?_
      refine ps_iload C (pc := 85) dX5_allWays_85 5 rfl ?_
      refine ps_iconst C (pc := 87) (v := -1) dX5_allWays_87 (by decide) ?_
      refine ps_ixor C (pc := 88) dX5_allWays_88 ?_
      refine ps_iand C (pc := 89) dX5_allWays_89 ?_
      obtain ⟨hi10, h⟩ := ps_ck_s h
      refine ps_iald C (pc := 90) 52 rfl rfl hi10 dX5_allWays_90 ?_
      refine ps_i2l C (pc := 91) dX5_allWays_91 ?_
      refine ps_lmul C (pc := 92) dX5_allWays_92 ?_
      refine ps_ldc2 C (pc := 93) tw_1001 dX5_allWays_93 ?_
      refine ps_lrem C (pc := 96) dX5_allWays_96 (by decide) ?_
      refine ps_ladd C (pc := 97) dX5_allWays_97 ?_
      refine ps_lstoreL C (pc := 98) (lw := fun x11 => [(4, .long x11), (0, .ref (z_ad z 45)), (1, .int a1), (2, .int a2), (3, .int a3), (6, .int a6)]) dX5_allWays_98 (by decide) (fun _ => rfl) h (fun x11 h => ?_)
      exact ps_sub [1, 2, 3, 4, 0, 5] rfl (tX5_allWays_J100 C Z  h k)
def fX5_allWays_S41 (a1 : Int32) (a2 : Int32) (a3 : Int32) (σ : ps_S) : Option ((Int32 × ps_S) ⊕ ((ps_S))) :=
  ((fX5_all σ).bind fun q7 =>
  (if q7 < a3 then some (.inr σ)
  else ((ps_lp (fun s => fX5_allWays_S55 a1 a2 a3 σ s.1 s.2) 100000 ((0 : Int64), a3)).bind fun e12 =>
  ((fX5_rest e12).bind fun q13 =>
  (ps_ck a3 256 ((ps_let (ps_ui σ 52 (Int32.toNatClampNeg a3) q13) fun σ15 =>
  (ps_let (a3 + (1 : Int32)) fun x16 =>
  some (.inl (x16, σ15))))))))))
set_option maxHeartbeats 4000000 in
set_option maxRecDepth 100000 in
theorem tX5_allWays_S41 {z : ps_X} (C : ps_C z cX5_allWays 7 "PartSumsModel") (Z : ps_Z z 3 68) (a1 : Int32) (a2 : Int32)  (s : Int32 × ps_S) (r : (Int32 × ps_S) ⊕ ((ps_S))) (h : fX5_allWays_S41 a1 a2 s.1 s.2 = some r) (k : ps_k (pX5_allWays_S41 z a1 a2) (qX5_allWays_S41 z a1 a2) r) : pX5_allWays_S41 z a1 a2 s := by
  obtain ⟨a3, σ⟩ := s
  unfold fX5_allWays_S41 at h
  unfold pX5_allWays_S41
  refine ps_iload_n C (pc := 41) dX5_allWays_41 3 rfl ?_
  refine ps_aload_n C (pc := 42) dX5_allWays_42 0 rfl ?_
  obtain ⟨q7, hq7, h⟩ := ps_bd h
  refine ps_callVI C Z (pc := 43) (As := []) (k0 := 45) (mX5_all  hq7) (Cn := "PartSumsModel") rfl tw_954 tw_956 tw_38 tw_70 tw_957 hdX5_all rfl rfl ⟨by decide, by decide⟩ (by decide) ps_o45 rfl rfl (Nat.le_of_ble_eq_true rfl) dX5_allWays_43 rfl ?_
  refine ps_icmp_gt C (pc := 46) 128 dX5_allWays_46 (by decide) (fun hc => ?_) (fun hc => ?_)
  · have h := ps_ift hc h
    obtain rfl := Option.some.inj h
    exact ps_sub [0, 2] rfl k
  · have h := ps_iff hc h
    refine ps_lconst C (pc := 49) (v := 0) dX5_allWays_49 (by decide) ?_
    refine ps_lstore C (pc := 50) (lv' := [(4, .long (0 : Int64)), (0, .ref (z_ad z 45)), (1, .int a1), (2, .int a2), (3, .int a3)]) dX5_allWays_50 (by decide) rfl ?_
    refine ps_iload_n C (pc := 52) dX5_allWays_52 4 rfl ?_
    refine ps_istore C (pc := 53) (lv' := [(6, .int a3), (4, .long (0 : Int64)), (0, .ref (z_ad z 45)), (1, .int a1), (2, .int a2), (3, .int a3)]) dX5_allWays_53 (by decide) rfl ?_
    obtain ⟨e12, he12, h⟩ := ps_bd h
    refine ps_sub [2, 3, 4, 5, 1, 0] rfl ?_
    refine ps_loop (P := pX5_allWays_S55 z a1 a2 a3 σ) (K := qX5_allWays_S55 z a1 a2 a3 σ) (fun s r h k => tX5_allWays_S55 C Z a1 a2 a3 σ  s r h k) _ _ _ he12 ?_
    unfold qX5_allWays_S55
    refine ps_aload_n C (pc := 111) dX5_allWays_111 0 rfl ?_
    refine pg_45_16 C (pc := 112) tw_812 dX5_allWays_112 ?_
    refine ps_iload_n C (pc := 115) dX5_allWays_115 3 rfl ?_
    refine ps_lload C (pc := 116) dX5_allWays_116 4 rfl ?_
    obtain ⟨q13, hq13, h⟩ := ps_bd h
    refine ps_callSI C Z (pc := 118) (As := [.long e12]) (mX5_rest  hq13) tw_998 tw_999 tw_70 tw_1000 hdX5_rest rfl rfl ⟨by decide, by decide⟩ rfl (Nat.le_of_ble_eq_true rfl) dX5_allWays_118 rfl ?_
    obtain ⟨hi14, h⟩ := ps_ck_s h
    refine ps_iastL C (pc := 121) 52 rfl rfl hi14 dX5_allWays_121 h (fun σ15 h => ?_)
    refine ps_iincL C (pc := 122) (zz := 1) (lw := fun x16 => [(3, .int x16), (0, .ref (z_ad z 45)), (1, .int a1), (2, .int a2), (4, .long e12)]) dX5_allWays_122 3 rfl (by decide) (by decide) (fun _ => rfl) h (fun x16 h => ?_)
    refine ps_goto C (pc := 125) 41 dX5_allWays_125 (by decide) ?_
    obtain rfl := Option.some.inj h
    exact ps_sub [1, 2, 3, 0] rfl k
def fX5_allWays (a1 : Int32) (a2 : Int32) (σ : ps_S) : Option (Int32 × ps_S) :=
  (ps_let (ps_ui σ 45 0 (0 : Int32)) fun σ1 =>
  ((fX5_isRow a1 σ1).bind fun q2 =>
  (if q2 = 0 then some ((-1 : Int32), σ1)
  else ((fX5_isRow a2 σ1).bind fun q3 =>
  (if q3 = 0 then some ((-1 : Int32), σ1)
  else ((fX5_numberOf a1 (0 : Int32) σ1).bind fun q4 =>
  (if q4 = 0 then (ps_ck (0 : Int32) 256 ((ps_let (ps_ui σ1 52 (Int32.toNatClampNeg (0 : Int32)) (1 : Int32)) fun σ6 =>
  ((ps_lp (fun s => fX5_allWays_S41 a1 a2 s.1 s.2) 100000 ((1 : Int32), σ6)).bind fun e17 =>
  ((fX5_all e17).bind fun q18 =>
  ((fX5_becomes a2 q18 e17).bind fun q19 =>
  some (q19.1, q19.2)))))))
  else some ((-1 : Int32), σ1))))))))
set_option maxHeartbeats 4000000 in
set_option maxRecDepth 100000 in
theorem tX5_allWays {z : ps_X} (C : ps_C z cX5_allWays 7 "PartSumsModel") (Z : ps_Z z 3 68) {a1 : Int32} {a2 : Int32} {σ : ps_S}  {r : Int32 × ps_S} (h : fX5_allWays a1 a2 σ = some r) (k : ps_KI z 7 cX5_allWays r.1 r.2) : ps_at z 7 0 [(0, .ref (z_ad z 45)), (1, .int a1), (2, .int a2)] [] σ := by
  unfold fX5_allWays at h
  refine ps_aload_n C (pc := 0) dX5_allWays_0 0 rfl ?_
  refine ps_iconst C (pc := 1) (v := 0) dX5_allWays_1 (by decide) ?_
  refine pp_45_0 C (pc := 2) tw_796 dX5_allWays_2 h (fun σ1 h => ?_)
  refine ps_aload_n C (pc := 5) dX5_allWays_5 0 rfl ?_
  refine ps_iload_n C (pc := 6) dX5_allWays_6 1 rfl ?_
  obtain ⟨q2, hq2, h⟩ := ps_bd h
  refine ps_callVI C Z (pc := 7) (As := [.int a1]) (k0 := 45) (mX5_isRow  hq2) (Cn := "PartSumsModel") rfl tw_982 tw_984 tw_42 tw_70 tw_985 hdX5_isRow rfl rfl ⟨by decide, by decide⟩ (by decide) ps_o45 rfl rfl (Nat.le_of_ble_eq_true rfl) dX5_allWays_7 rfl ?_
  refine ps_if_eq C (pc := 10) 30 dX5_allWays_10 (by decide) (fun hc => ?_) (fun hc => ?_)
  · have h := ps_ift hc h
    refine ps_iconst C (pc := 30) (v := -1) dX5_allWays_30 (by decide) ?_
    obtain rfl := Option.some.inj h
    exact k _ _ dX5_allWays_31
  · have h := ps_iff hc h
    refine ps_aload_n C (pc := 13) dX5_allWays_13 0 rfl ?_
    refine ps_iload_n C (pc := 14) dX5_allWays_14 2 rfl ?_
    obtain ⟨q3, hq3, h⟩ := ps_bd h
    refine ps_callVI C Z (pc := 15) (As := [.int a2]) (k0 := 45) (mX5_isRow  hq3) (Cn := "PartSumsModel") rfl tw_982 tw_984 tw_42 tw_70 tw_985 hdX5_isRow rfl rfl ⟨by decide, by decide⟩ (by decide) ps_o45 rfl rfl (Nat.le_of_ble_eq_true rfl) dX5_allWays_15 rfl ?_
    refine ps_if_eq C (pc := 18) 30 dX5_allWays_18 (by decide) (fun hc => ?_) (fun hc => ?_)
    · have h := ps_ift hc h
      refine ps_iconst C (pc := 30) (v := -1) dX5_allWays_30 (by decide) ?_
      obtain rfl := Option.some.inj h
      exact k _ _ dX5_allWays_31
    · have h := ps_iff hc h
      refine ps_aload_n C (pc := 21) dX5_allWays_21 0 rfl ?_
      refine ps_iload_n C (pc := 22) dX5_allWays_22 1 rfl ?_
      refine ps_iconst C (pc := 23) (v := 0) dX5_allWays_23 (by decide) ?_
      obtain ⟨q4, hq4, h⟩ := ps_bd h
      refine ps_callVI C Z (pc := 24) (As := [.int a1, .int (0 : Int32)]) (k0 := 45) (mX5_numberOf  hq4) (Cn := "PartSumsModel") rfl tw_986 tw_988 tw_43 tw_70 tw_989 hdX5_numberOf rfl rfl ⟨by decide, by decide⟩ (by decide) ps_o45 rfl rfl (Nat.le_of_ble_eq_true rfl) dX5_allWays_24 rfl ?_
      refine ps_if_eq C (pc := 27) 32 dX5_allWays_27 (by decide) (fun hc => ?_) (fun hc => ?_)
      · have h := ps_ift hc h
        refine ps_aload_n C (pc := 32) dX5_allWays_32 0 rfl ?_
        refine pg_45_16 C (pc := 33) tw_812 dX5_allWays_33 ?_
        refine ps_iconst C (pc := 36) (v := 0) dX5_allWays_36 (by decide) ?_
        refine ps_iconst C (pc := 37) (v := 1) dX5_allWays_37 (by decide) ?_
        obtain ⟨hi5, h⟩ := ps_ck_s h
        refine ps_iastL C (pc := 38) 52 rfl rfl hi5 dX5_allWays_38 h (fun σ6 h => ?_)
        refine ps_iconst C (pc := 39) (v := 1) dX5_allWays_39 (by decide) ?_
        refine ps_istore_n C (pc := 40) (lv' := [(3, .int (1 : Int32)), (0, .ref (z_ad z 45)), (1, .int a1), (2, .int a2)]) dX5_allWays_40 (by decide) rfl ?_
        obtain ⟨e17, he17, h⟩ := ps_bd h
        refine ps_sub [1, 2, 3, 0] rfl ?_
        refine ps_loop (P := pX5_allWays_S41 z a1 a2) (K := qX5_allWays_S41 z a1 a2) (fun s r h k => tX5_allWays_S41 C Z a1 a2  s r h k) _ _ _ he17 ?_
        unfold qX5_allWays_S41
        refine ps_aload_n C (pc := 128) dX5_allWays_128 0 rfl ?_
        refine ps_iload_n C (pc := 129) dX5_allWays_129 1 rfl ?_
        refine ps_aload_n C (pc := 130) dX5_allWays_130 0 rfl ?_
        obtain ⟨q18, hq18, h⟩ := ps_bd h
        refine ps_callVI C Z (pc := 131) (As := []) (k0 := 45) (mX5_all  hq18) (Cn := "PartSumsModel") rfl tw_954 tw_956 tw_38 tw_70 tw_957 hdX5_all rfl rfl ⟨by decide, by decide⟩ (by decide) ps_o45 rfl rfl (Nat.le_of_ble_eq_true rfl) dX5_allWays_131 rfl ?_
        obtain ⟨q19, hq19, h⟩ := ps_bd h
        refine ps_callVI C Z (pc := 134) (As := [.int a2, .int q18]) (k0 := 45) (mX5_becomes  hq19) (Cn := "PartSumsModel") rfl tw_1018 tw_1020 tw_48 tw_70 tw_1021 hdX5_becomes rfl rfl ⟨by decide, by decide⟩ (by decide) ps_o45 rfl rfl (Nat.le_of_ble_eq_true rfl) dX5_allWays_134 rfl ?_
        obtain rfl := Option.some.inj h
        exact k _ _ dX5_allWays_137
      · have h := ps_iff hc h
        refine ps_iconst C (pc := 30) (v := -1) dX5_allWays_30 (by decide) ?_
        obtain rfl := Option.some.inj h
        exact k _ _ dX5_allWays_31
def rmX5_allWays : Room := { frames := 3, cells := 0, slots := 0, locals := 68 }
theorem mX5_allWays {l : Launch} {E : ps_E} {σ : ps_S} {a1 : Int32} {a2 : Int32} {r : Int32 × ps_S}  (h : fX5_allWays a1 a2 σ = some r) : ps_MI l yX5_allWays (ps_wm yX5_allWays cX5_allWays 7 (some .int)) rmX5_allWays [.ref (e_ad E 45), .int a1, .int a2] E σ r.1 r.2 :=
  ps_metI yX5_allWays rmX5_allWays 7 (own := "PartSumsModel") r.1 (by decide +kernel) rfl (Nat.le_of_ble_eq_true rfl) rfl (fun z e1 e2 e3 e4 e5 C k => by
    subst e5
    exact tX5_allWays C (ps_Zof e1 e3 e4)  h k)
theorem hdX5_allWays : yX5_allWays.cls ≠ "java/lang/invoke/MethodHandle" ∧ yX5_allWays.cls ≠ "java/lang/invoke/VarHandle" ∧ (parseMethodDescriptor yX5_allWays.desc).map (fun d => d.parameters.length) = some 2 := by decide +kernel
def pX5_roots_S42 (z : ps_X) (a1 : Int32) (a2 : Int32) (s : Int32 × ps_S) : Prop := ps_at z 7 42 [(0, .ref (z_ad z 45)), (1, .int a1), (2, .int a2), (3, .int s.1)] [] s.2
def qX5_roots_S42 (z : ps_X) (a1 : Int32) (a2 : Int32) (x : (ps_S)) : Prop := match x with | y => ps_at z 7 139 [(0, .ref (z_ad z 45)), (2, .int a2)] [] y
def pX5_roots_S66 (z : ps_X) (a1 : Int32) (a2 : Int32) (a3 : Int32) (σ : ps_S) (s : Int64 × Int32) : Prop := ps_at z 7 66 [(0, .ref (z_ad z 45)), (1, .int a1), (2, .int a2), (3, .int a3), (4, .long s.1), (6, .int s.2)] [] σ
def qX5_roots_S66 (z : ps_X) (a1 : Int32) (a2 : Int32) (a3 : Int32) (σ : ps_S) (x : (Int64)) : Prop := match x with | y => ps_at z 7 122 [(0, .ref (z_ad z 45)), (1, .int a1), (2, .int a2), (3, .int a3), (4, .long y)] [] σ
def fX5_roots_J111 (a1 : Int32) (a2 : Int32) (a3 : Int32) (a4 : Int64) (a6 : Int32) (σ : ps_S) : Option ((Int64 × Int32) ⊕ ((Int64))) :=
  (ps_let ((a6 - (1 : Int32)) &&& a3) fun x11 =>
  some (.inl (a4, x11)))
set_option maxHeartbeats 4000000 in
set_option maxRecDepth 100000 in
theorem tX5_roots_J111 {z : ps_X} (C : ps_C z cX5_roots 7 "PartSumsModel") (Z : ps_Z z 3 68) {a1 : Int32} {a2 : Int32} {a3 : Int32} {a4 : Int64} {a6 : Int32} {σ : ps_S}  {r : (Int64 × Int32) ⊕ ((Int64))} (h : fX5_roots_J111 a1 a2 a3 a4 a6 σ = some r) (k : ps_k (pX5_roots_S66 z a1 a2 a3 σ) (qX5_roots_S66 z a1 a2 a3 σ) r) : ps_at z 7 111 [(0, .ref (z_ad z 45)), (1, .int a1), (2, .int a2), (3, .int a3), (4, .long a4), (6, .int a6)] [] σ := by
  unfold fX5_roots_J111 at h
  refine ps_iload C (pc := 111) dX5_roots_111 5 rfl ?_
  refine ps_iconst C (pc := 113) (v := 1) dX5_roots_113 (by decide) ?_
  refine ps_isub C (pc := 114) dX5_roots_114 ?_
  refine ps_iload_n C (pc := 115) dX5_roots_115 3 rfl ?_
  refine ps_iand C (pc := 116) dX5_roots_116 ?_
  refine ps_istoreL C (pc := 117) (lw := fun x11 => [(6, .int x11), (0, .ref (z_ad z 45)), (1, .int a1), (2, .int a2), (3, .int a3), (4, .long a4)]) dX5_roots_117 (by decide) (fun _ => rfl) h (fun x11 h => ?_)
  refine ps_goto C (pc := 119) 66 dX5_roots_119 (by decide) ?_
  obtain rfl := Option.some.inj h
  exact ps_sub [1, 2, 3, 4, 5, 0] rfl k
def fX5_roots_S66 (a1 : Int32) (a2 : Int32) (a3 : Int32) (σ : ps_S) (a4 : Int64) (a6 : Int32) : Option ((Int64 × Int32) ⊕ ((Int64))) :=
  (if a6 ≤ 0 then some (.inr a4)
  else (if ((a6 &&& a3) &&& (-a3)) = 0 then fX5_roots_J111 a1 a2 a3 a4 a6 σ
  else (ps_ck a6 256 (((fX5_numberOf a1 (a3 &&& (a6 ^^^ (-1 : Int32))) σ).bind fun q13 =>
  (ps_let (a4 - (((Int32.toInt64 (σ.1 52 (Int32.toNatClampNeg a6))) * (Int32.toInt64 q13)) - ((Int32.toInt64 (σ.1 52 (Int32.toNatClampNeg a6))) * (Int32.toInt64 q13)) / (1000003 : Int64) * (1000003 : Int64))) fun x14 =>
  fX5_roots_J111 a1 a2 a3 x14 a6 σ))))))
set_option maxHeartbeats 4000000 in
set_option maxRecDepth 100000 in
theorem tX5_roots_S66 {z : ps_X} (C : ps_C z cX5_roots 7 "PartSumsModel") (Z : ps_Z z 3 68) (a1 : Int32) (a2 : Int32) (a3 : Int32) (σ : ps_S)  (s : Int64 × Int32) (r : (Int64 × Int32) ⊕ ((Int64))) (h : fX5_roots_S66 a1 a2 a3 σ s.1 s.2 = some r) (k : ps_k (pX5_roots_S66 z a1 a2 a3 σ) (qX5_roots_S66 z a1 a2 a3 σ) r) : pX5_roots_S66 z a1 a2 a3 σ s := by
  obtain ⟨a4, a6⟩ := s
  unfold fX5_roots_S66 at h
  unfold pX5_roots_S66
  refine ps_iload C (pc := 66) dX5_roots_66 5 rfl ?_
  refine ps_if_le C (pc := 68) 122 dX5_roots_68 (by decide) (fun hc => ?_) (fun hc => ?_)
  · have h := ps_ift hc h
    obtain rfl := Option.some.inj h
    exact ps_sub [0, 1, 2, 3, 4] rfl k
  · have h := ps_iff hc h
    refine ps_iload C (pc := 71) dX5_roots_71 5 rfl ?_
    refine ps_iload_n C (pc := 73) dX5_roots_73 3 rfl ?_
    refine ps_iand C (pc := 74) dX5_roots_74 ?_
    refine ps_iload_n C (pc := 75) dX5_roots_75 3 rfl ?_
    refine ps_ineg C (pc := 76) dX5_roots_76 ?_
    refine ps_iand C (pc := 77) dX5_roots_77 ?_
    refine ps_if_eq C (pc := 78) 111 dX5_roots_78 (by decide) (fun hc => ?_) (fun hc => ?_)
    · have h := ps_ift hc h
      exact ps_sub [0, 1, 2, 3, 4, 5] rfl (tX5_roots_J111 C Z  h k)
    · have h := ps_iff hc h
      refine ps_lload C (pc := 81) dX5_roots_81 4 rfl ?_
      refine ps_aload_n C (pc := 83) dX5_roots_83 0 rfl ?_
      refine pg_45_16 C (pc := 84) tw_812 dX5_roots_84 ?_
      refine ps_iload C (pc := 87) dX5_roots_87 5 rfl ?_
      obtain ⟨hi12, h⟩ := ps_ck_s h
      refine ps_iald C (pc := 89) 52 rfl rfl hi12 dX5_roots_89 ?_
      refine ps_i2l C (pc := 90) dX5_roots_90 ?_
      refine ps_aload_n C (pc := 91) dX5_roots_91 0 rfl ?_
      refine ps_iload_n C (pc := 92) dX5_roots_92 1 rfl ?_
      refine ps_iload_n C (pc := 93) dX5_roots_93 3 rfl ?_
      refine ps_iload C (pc := 94) dX5_roots_94 5 rfl ?_
      refine ps_iconst C (pc := 96) (v := -1) dX5_roots_96 (by decide) ?_
      refine ps_ixor C (pc := 97) dX5_roots_97 ?_
      refine ps_iand C (pc := 98) dX5_roots_98 ?_
      obtain ⟨q13, hq13, h⟩ := ps_bd h
      refine ps_callVI C Z (pc := 99) (As := [.int a1, .int (a3 &&& (a6 ^^^ (-1 : Int32)))]) (k0 := 45) (mX5_numberOf  hq13) (Cn := "PartSumsModel") rfl tw_986 tw_988 tw_43 tw_70 tw_989 hdX5_numberOf rfl rfl ⟨by decide, by decide⟩ (by decide) ps_o45 rfl rfl (Nat.le_of_ble_eq_true rfl) dX5_roots_99 rfl ?_
      refine ps_i2l C (pc := 102) dX5_roots_102 ?_
      refine ps_lmul C (pc := 103) dX5_roots_103 ?_
      refine ps_ldc2 C (pc := 104) tw_1001 dX5_roots_104 ?_
      refine ps_lrem C (pc := 107) dX5_roots_107 (by decide) ?_
      refine ps_lsub C (pc := 108) dX5_roots_108 ?_
      refine ps_lstoreL C (pc := 109) (lw := fun x14 => [(4, .long x14), (0, .ref (z_ad z 45)), (1, .int a1), (2, .int a2), (3, .int a3), (6, .int a6)]) dX5_roots_109 (by decide) (fun _ => rfl) h (fun x14 h => ?_)
      exact ps_sub [1, 2, 3, 4, 0, 5] rfl (tX5_roots_J111 C Z  h k)
def fX5_roots_S42 (a1 : Int32) (a2 : Int32) (a3 : Int32) (σ : ps_S) : Option ((Int32 × ps_S) ⊕ ((ps_S))) :=
  ((fX5_all σ).bind fun q7 =>
  (if q7 < a3 then some (.inr σ)
  else ((fX5_numberOf a1 a3 σ).bind fun q8 =>
  (ps_let (Int32.toInt64 q8) fun x9 =>
  (ps_let ((a3 - (1 : Int32)) &&& a3) fun x10 =>
  ((ps_lp (fun s => fX5_roots_S66 a1 a2 a3 σ s.1 s.2) 100000 (x9, x10)).bind fun e15 =>
  ((fX5_rest e15).bind fun q16 =>
  (ps_ck a3 256 ((ps_let (ps_ui σ 52 (Int32.toNatClampNeg a3) q16) fun σ18 =>
  (ps_let (a3 + (1 : Int32)) fun x19 =>
  some (.inl (x19, σ18)))))))))))))
set_option maxHeartbeats 4000000 in
set_option maxRecDepth 100000 in
theorem tX5_roots_S42 {z : ps_X} (C : ps_C z cX5_roots 7 "PartSumsModel") (Z : ps_Z z 3 68) (a1 : Int32) (a2 : Int32)  (s : Int32 × ps_S) (r : (Int32 × ps_S) ⊕ ((ps_S))) (h : fX5_roots_S42 a1 a2 s.1 s.2 = some r) (k : ps_k (pX5_roots_S42 z a1 a2) (qX5_roots_S42 z a1 a2) r) : pX5_roots_S42 z a1 a2 s := by
  obtain ⟨a3, σ⟩ := s
  unfold fX5_roots_S42 at h
  unfold pX5_roots_S42
  refine ps_iload_n C (pc := 42) dX5_roots_42 3 rfl ?_
  refine ps_aload_n C (pc := 43) dX5_roots_43 0 rfl ?_
  obtain ⟨q7, hq7, h⟩ := ps_bd h
  refine ps_callVI C Z (pc := 44) (As := []) (k0 := 45) (mX5_all  hq7) (Cn := "PartSumsModel") rfl tw_954 tw_956 tw_38 tw_70 tw_957 hdX5_all rfl rfl ⟨by decide, by decide⟩ (by decide) ps_o45 rfl rfl (Nat.le_of_ble_eq_true rfl) dX5_roots_44 rfl ?_
  refine ps_icmp_gt C (pc := 47) 139 dX5_roots_47 (by decide) (fun hc => ?_) (fun hc => ?_)
  · have h := ps_ift hc h
    obtain rfl := Option.some.inj h
    exact ps_sub [0, 2] rfl k
  · have h := ps_iff hc h
    refine ps_aload_n C (pc := 50) dX5_roots_50 0 rfl ?_
    refine ps_iload_n C (pc := 51) dX5_roots_51 1 rfl ?_
    refine ps_iload_n C (pc := 52) dX5_roots_52 3 rfl ?_
    obtain ⟨q8, hq8, h⟩ := ps_bd h
    refine ps_callVI C Z (pc := 53) (As := [.int a1, .int a3]) (k0 := 45) (mX5_numberOf  hq8) (Cn := "PartSumsModel") rfl tw_986 tw_988 tw_43 tw_70 tw_989 hdX5_numberOf rfl rfl ⟨by decide, by decide⟩ (by decide) ps_o45 rfl rfl (Nat.le_of_ble_eq_true rfl) dX5_roots_53 rfl ?_
    refine ps_i2l C (pc := 56) dX5_roots_56 ?_
    refine ps_lstoreL C (pc := 57) (lw := fun x9 => [(4, .long x9), (0, .ref (z_ad z 45)), (1, .int a1), (2, .int a2), (3, .int a3)]) dX5_roots_57 (by decide) (fun _ => rfl) h (fun x9 h => ?_)
    refine ps_iload_n C (pc := 59) dX5_roots_59 4 rfl ?_
    refine ps_iconst C (pc := 60) (v := 1) dX5_roots_60 (by decide) ?_
    refine ps_isub C (pc := 61) dX5_roots_61 ?_
    refine ps_iload_n C (pc := 62) dX5_roots_62 4 rfl ?_
    refine ps_iand C (pc := 63) dX5_roots_63 ?_
    refine ps_istoreL C (pc := 64) (lw := fun x10 => [(6, .int x10), (4, .long x9), (0, .ref (z_ad z 45)), (1, .int a1), (2, .int a2), (3, .int a3)]) dX5_roots_64 (by decide) (fun _ => rfl) h (fun x10 h => ?_)
    obtain ⟨e15, he15, h⟩ := ps_bd h
    refine ps_sub [2, 3, 4, 5, 1, 0] rfl ?_
    refine ps_loop (P := pX5_roots_S66 z a1 a2 a3 σ) (K := qX5_roots_S66 z a1 a2 a3 σ) (fun s r h k => tX5_roots_S66 C Z a1 a2 a3 σ  s r h k) _ _ _ he15 ?_
    unfold qX5_roots_S66
    refine ps_aload_n C (pc := 122) dX5_roots_122 0 rfl ?_
    refine pg_45_16 C (pc := 123) tw_812 dX5_roots_123 ?_
    refine ps_iload_n C (pc := 126) dX5_roots_126 3 rfl ?_
    refine ps_lload C (pc := 127) dX5_roots_127 4 rfl ?_
    obtain ⟨q16, hq16, h⟩ := ps_bd h
    refine ps_callSI C Z (pc := 129) (As := [.long e15]) (mX5_rest  hq16) tw_998 tw_999 tw_70 tw_1000 hdX5_rest rfl rfl ⟨by decide, by decide⟩ rfl (Nat.le_of_ble_eq_true rfl) dX5_roots_129 rfl ?_
    obtain ⟨hi17, h⟩ := ps_ck_s h
    refine ps_iastL C (pc := 132) 52 rfl rfl hi17 dX5_roots_132 h (fun σ18 h => ?_)
    refine ps_iincL C (pc := 133) (zz := 1) (lw := fun x19 => [(3, .int x19), (0, .ref (z_ad z 45)), (1, .int a1), (2, .int a2), (4, .long e15)]) dX5_roots_133 3 rfl (by decide) (by decide) (fun _ => rfl) h (fun x19 h => ?_)
    refine ps_goto C (pc := 136) 42 dX5_roots_136 (by decide) ?_
    obtain rfl := Option.some.inj h
    exact ps_sub [1, 2, 3, 0] rfl k
def fX5_roots (a1 : Int32) (a2 : Int32) (σ : ps_S) : Option (Int32 × ps_S) :=
  (ps_let (ps_ui σ 45 0 (0 : Int32)) fun σ1 =>
  ((fX5_isRow a1 σ1).bind fun q2 =>
  (if q2 = 0 then some ((-1 : Int32), σ1)
  else ((fX5_isRow a2 σ1).bind fun q3 =>
  (if q3 = 0 then some ((-1 : Int32), σ1)
  else ((fX5_numberOf a1 (0 : Int32) σ1).bind fun q4 =>
  (if q4 = (1 : Int32) then (ps_ck (0 : Int32) 256 ((ps_let (ps_ui σ1 52 (Int32.toNatClampNeg (0 : Int32)) (0 : Int32)) fun σ6 =>
  ((ps_lp (fun s => fX5_roots_S42 a1 a2 s.1 s.2) 100000 ((1 : Int32), σ6)).bind fun e20 =>
  ((fX5_all e20).bind fun q21 =>
  ((fX5_becomes a2 q21 e20).bind fun q22 =>
  some (q22.1, q22.2)))))))
  else some ((-1 : Int32), σ1))))))))
set_option maxHeartbeats 4000000 in
set_option maxRecDepth 100000 in
theorem tX5_roots {z : ps_X} (C : ps_C z cX5_roots 7 "PartSumsModel") (Z : ps_Z z 3 68) {a1 : Int32} {a2 : Int32} {σ : ps_S}  {r : Int32 × ps_S} (h : fX5_roots a1 a2 σ = some r) (k : ps_KI z 7 cX5_roots r.1 r.2) : ps_at z 7 0 [(0, .ref (z_ad z 45)), (1, .int a1), (2, .int a2)] [] σ := by
  unfold fX5_roots at h
  refine ps_aload_n C (pc := 0) dX5_roots_0 0 rfl ?_
  refine ps_iconst C (pc := 1) (v := 0) dX5_roots_1 (by decide) ?_
  refine pp_45_0 C (pc := 2) tw_796 dX5_roots_2 h (fun σ1 h => ?_)
  refine ps_aload_n C (pc := 5) dX5_roots_5 0 rfl ?_
  refine ps_iload_n C (pc := 6) dX5_roots_6 1 rfl ?_
  obtain ⟨q2, hq2, h⟩ := ps_bd h
  refine ps_callVI C Z (pc := 7) (As := [.int a1]) (k0 := 45) (mX5_isRow  hq2) (Cn := "PartSumsModel") rfl tw_982 tw_984 tw_42 tw_70 tw_985 hdX5_isRow rfl rfl ⟨by decide, by decide⟩ (by decide) ps_o45 rfl rfl (Nat.le_of_ble_eq_true rfl) dX5_roots_7 rfl ?_
  refine ps_if_eq C (pc := 10) 31 dX5_roots_10 (by decide) (fun hc => ?_) (fun hc => ?_)
  · have h := ps_ift hc h
    refine ps_iconst C (pc := 31) (v := -1) dX5_roots_31 (by decide) ?_
    obtain rfl := Option.some.inj h
    exact k _ _ dX5_roots_32
  · have h := ps_iff hc h
    refine ps_aload_n C (pc := 13) dX5_roots_13 0 rfl ?_
    refine ps_iload_n C (pc := 14) dX5_roots_14 2 rfl ?_
    obtain ⟨q3, hq3, h⟩ := ps_bd h
    refine ps_callVI C Z (pc := 15) (As := [.int a2]) (k0 := 45) (mX5_isRow  hq3) (Cn := "PartSumsModel") rfl tw_982 tw_984 tw_42 tw_70 tw_985 hdX5_isRow rfl rfl ⟨by decide, by decide⟩ (by decide) ps_o45 rfl rfl (Nat.le_of_ble_eq_true rfl) dX5_roots_15 rfl ?_
    refine ps_if_eq C (pc := 18) 31 dX5_roots_18 (by decide) (fun hc => ?_) (fun hc => ?_)
    · have h := ps_ift hc h
      refine ps_iconst C (pc := 31) (v := -1) dX5_roots_31 (by decide) ?_
      obtain rfl := Option.some.inj h
      exact k _ _ dX5_roots_32
    · have h := ps_iff hc h
      refine ps_aload_n C (pc := 21) dX5_roots_21 0 rfl ?_
      refine ps_iload_n C (pc := 22) dX5_roots_22 1 rfl ?_
      refine ps_iconst C (pc := 23) (v := 0) dX5_roots_23 (by decide) ?_
      obtain ⟨q4, hq4, h⟩ := ps_bd h
      refine ps_callVI C Z (pc := 24) (As := [.int a1, .int (0 : Int32)]) (k0 := 45) (mX5_numberOf  hq4) (Cn := "PartSumsModel") rfl tw_986 tw_988 tw_43 tw_70 tw_989 hdX5_numberOf rfl rfl ⟨by decide, by decide⟩ (by decide) ps_o45 rfl rfl (Nat.le_of_ble_eq_true rfl) dX5_roots_24 rfl ?_
      refine ps_iconst C (pc := 27) (v := 1) dX5_roots_27 (by decide) ?_
      refine ps_icmp_eq C (pc := 28) 33 dX5_roots_28 (by decide) (fun hc => ?_) (fun hc => ?_)
      · have h := ps_ift hc h
        refine ps_aload_n C (pc := 33) dX5_roots_33 0 rfl ?_
        refine pg_45_16 C (pc := 34) tw_812 dX5_roots_34 ?_
        refine ps_iconst C (pc := 37) (v := 0) dX5_roots_37 (by decide) ?_
        refine ps_iconst C (pc := 38) (v := 0) dX5_roots_38 (by decide) ?_
        obtain ⟨hi5, h⟩ := ps_ck_s h
        refine ps_iastL C (pc := 39) 52 rfl rfl hi5 dX5_roots_39 h (fun σ6 h => ?_)
        refine ps_iconst C (pc := 40) (v := 1) dX5_roots_40 (by decide) ?_
        refine ps_istore_n C (pc := 41) (lv' := [(3, .int (1 : Int32)), (0, .ref (z_ad z 45)), (1, .int a1), (2, .int a2)]) dX5_roots_41 (by decide) rfl ?_
        obtain ⟨e20, he20, h⟩ := ps_bd h
        refine ps_sub [1, 2, 3, 0] rfl ?_
        refine ps_loop (P := pX5_roots_S42 z a1 a2) (K := qX5_roots_S42 z a1 a2) (fun s r h k => tX5_roots_S42 C Z a1 a2  s r h k) _ _ _ he20 ?_
        unfold qX5_roots_S42
        refine ps_aload_n C (pc := 139) dX5_roots_139 0 rfl ?_
        refine ps_iload_n C (pc := 140) dX5_roots_140 1 rfl ?_
        refine ps_aload_n C (pc := 141) dX5_roots_141 0 rfl ?_
        obtain ⟨q21, hq21, h⟩ := ps_bd h
        refine ps_callVI C Z (pc := 142) (As := []) (k0 := 45) (mX5_all  hq21) (Cn := "PartSumsModel") rfl tw_954 tw_956 tw_38 tw_70 tw_957 hdX5_all rfl rfl ⟨by decide, by decide⟩ (by decide) ps_o45 rfl rfl (Nat.le_of_ble_eq_true rfl) dX5_roots_142 rfl ?_
        obtain ⟨q22, hq22, h⟩ := ps_bd h
        refine ps_callVI C Z (pc := 145) (As := [.int a2, .int q21]) (k0 := 45) (mX5_becomes  hq22) (Cn := "PartSumsModel") rfl tw_1018 tw_1020 tw_48 tw_70 tw_1021 hdX5_becomes rfl rfl ⟨by decide, by decide⟩ (by decide) ps_o45 rfl rfl (Nat.le_of_ble_eq_true rfl) dX5_roots_145 rfl ?_
        obtain rfl := Option.some.inj h
        exact k _ _ dX5_roots_148
      · have h := ps_iff hc h
        refine ps_iconst C (pc := 31) (v := -1) dX5_roots_31 (by decide) ?_
        obtain rfl := Option.some.inj h
        exact k _ _ dX5_roots_32
def rmX5_roots : Room := { frames := 3, cells := 0, slots := 0, locals := 68 }
theorem mX5_roots {l : Launch} {E : ps_E} {σ : ps_S} {a1 : Int32} {a2 : Int32} {r : Int32 × ps_S}  (h : fX5_roots a1 a2 σ = some r) : ps_MI l yX5_roots (ps_wm yX5_roots cX5_roots 7 (some .int)) rmX5_roots [.ref (e_ad E 45), .int a1, .int a2] E σ r.1 r.2 :=
  ps_metI yX5_roots rmX5_roots 7 (own := "PartSumsModel") r.1 (by decide +kernel) rfl (Nat.le_of_ble_eq_true rfl) rfl (fun z e1 e2 e3 e4 e5 C k => by
    subst e5
    exact tX5_roots C (ps_Zof e1 e3 e4)  h k)
theorem hdX5_roots : yX5_roots.cls ≠ "java/lang/invoke/MethodHandle" ∧ yX5_roots.cls ≠ "java/lang/invoke/VarHandle" ∧ (parseMethodDescriptor yX5_roots.desc).map (fun d => d.parameters.length) = some 2 := by decide +kernel
def fX5_isTold (a1 : Int32) (σ : ps_S) : Option (Int32) :=
  (ps_ck ((1 : Int32) + a1) 1289 ((if (σ.1 47 (Int32.toNatClampNeg ((1 : Int32) + a1))) ≤ 0 then some (0 : Int32)
  else some (1 : Int32))))
set_option maxHeartbeats 4000000 in
set_option maxRecDepth 100000 in
theorem tX5_isTold {z : ps_X} (C : ps_C z cX5_isTold 2 "PartSumsModel") (Z : ps_Z z 0 0) {a1 : Int32} {σ : ps_S}  {r : Int32} (h : fX5_isTold a1 σ = some r) (k : ps_KZ z 2 cX5_isTold r σ) : ps_at z 2 0 [(0, .ref (z_ad z 45)), (1, .int a1)] [] σ := by
  unfold fX5_isTold at h
  refine ps_aload_n C (pc := 0) dX5_isTold_0 0 rfl ?_
  refine pg_45_10 C (pc := 1) tw_806 dX5_isTold_1 ?_
  refine ps_iconst C (pc := 4) (v := 1) dX5_isTold_4 (by decide) ?_
  refine ps_iload_n C (pc := 5) dX5_isTold_5 1 rfl ?_
  refine ps_iadd C (pc := 6) dX5_isTold_6 ?_
  obtain ⟨hi1, h⟩ := ps_ck_s h
  refine ps_iald C (pc := 7) 47 rfl rfl hi1 dX5_isTold_7 ?_
  refine ps_if_le C (pc := 8) 15 dX5_isTold_8 (by decide) (fun hc => ?_) (fun hc => ?_)
  · have h := ps_ift hc h
    refine ps_iconst C (pc := 15) (v := 0) dX5_isTold_15 (by decide) ?_
    obtain rfl := Option.some.inj h
    exact k _ _ (Or.inl rfl) dX5_isTold_16
  · have h := ps_iff hc h
    refine ps_iconst C (pc := 11) (v := 1) dX5_isTold_11 (by decide) ?_
    refine ps_goto C (pc := 12) 16 dX5_isTold_12 (by decide) ?_
    obtain rfl := Option.some.inj h
    exact k _ _ (Or.inr rfl) dX5_isTold_16
def rmX5_isTold : Room := { frames := 0, cells := 0, slots := 0, locals := 0 }
theorem mX5_isTold {l : Launch} {E : ps_E} {σ : ps_S} {a1 : Int32} {r : Int32}  (h : fX5_isTold a1 σ = some r) : ps_MI l yX5_isTold (ps_wm yX5_isTold cX5_isTold 2 (some .boolean)) rmX5_isTold [.ref (e_ad E 45), .int a1] E σ r σ :=
  ps_metZ yX5_isTold rmX5_isTold 2 (own := "PartSumsModel") r (by decide +kernel) rfl (Nat.le_of_ble_eq_true rfl) rfl (fun z e1 e2 e3 e4 e5 C k => by
    subst e5
    exact tX5_isTold C (ps_Zof e1 e3 e4)  h k)
theorem hdX5_isTold : yX5_isTold.cls ≠ "java/lang/invoke/MethodHandle" ∧ yX5_isTold.cls ≠ "java/lang/invoke/VarHandle" ∧ (parseMethodDescriptor yX5_isTold.desc).map (fun d => d.parameters.length) = some 1 := by decide +kernel
def pX5_covers_S31 (z : ps_X) (a1 : Int32) (a2 : Int32) (s : Int32 × ps_S) : Prop := ps_at z 6 31 [(0, .ref (z_ad z 45)), (1, .int a1), (2, .int a2), (3, .int s.1)] [] s.2
def qX5_covers_S31 (z : ps_X) (a1 : Int32) (a2 : Int32) (x : (ps_S)) : Prop := match x with | y => ps_at z 6 177 [(0, .ref (z_ad z 45)), (1, .int a1)] [] y
def pX5_covers_S39 (z : ps_X) (a1 : Int32) (a2 : Int32) (a3 : Int32) (s : Int32 × ps_S) : Prop := ps_at z 6 39 [(0, .ref (z_ad z 45)), (1, .int a1), (2, .int a2), (3, .int a3), (4, .int s.1)] [] s.2
def qX5_covers_S39 (z : ps_X) (a1 : Int32) (a2 : Int32) (a3 : Int32) (x : (ps_S)) : Prop := match x with | y => ps_at z 6 76 [(0, .ref (z_ad z 45)), (1, .int a1), (2, .int a2), (3, .int a3)] [] y
def fX5_covers_S39 (a1 : Int32) (a2 : Int32) (a3 : Int32) (a4 : Int32) (σ : ps_S) : Option ((Int32 × ps_S) ⊕ ((ps_S))) :=
  ((fX5_all σ).bind fun q5 =>
  (if q5 < a4 then some (.inr σ)
  else (ps_ck a4 256 ((ps_ck a4 256 ((ps_let (ps_ui σ 53 (Int32.toNatClampNeg a4) (σ.1 52 (Int32.toNatClampNeg a4))) fun σ8 =>
  (ps_ck a4 256 ((ps_let (ps_ui σ8 52 (Int32.toNatClampNeg a4) (0 : Int32)) fun σ10 =>
  (ps_let (a4 + (1 : Int32)) fun x11 =>
  some (.inl (x11, σ10)))))))))))))
set_option maxHeartbeats 4000000 in
set_option maxRecDepth 100000 in
theorem tX5_covers_S39 {z : ps_X} (C : ps_C z cX5_covers 6 "PartSumsModel") (Z : ps_Z z 3 61) (a1 : Int32) (a2 : Int32) (a3 : Int32)  (s : Int32 × ps_S) (r : (Int32 × ps_S) ⊕ ((ps_S))) (h : fX5_covers_S39 a1 a2 a3 s.1 s.2 = some r) (k : ps_k (pX5_covers_S39 z a1 a2 a3) (qX5_covers_S39 z a1 a2 a3) r) : pX5_covers_S39 z a1 a2 a3 s := by
  obtain ⟨a4, σ⟩ := s
  unfold fX5_covers_S39 at h
  unfold pX5_covers_S39
  refine ps_iload C (pc := 39) dX5_covers_39 4 rfl ?_
  refine ps_aload_n C (pc := 41) dX5_covers_41 0 rfl ?_
  obtain ⟨q5, hq5, h⟩ := ps_bd h
  refine ps_callVI C Z (pc := 42) (As := []) (k0 := 45) (mX5_all  hq5) (Cn := "PartSumsModel") rfl tw_954 tw_956 tw_38 tw_70 tw_957 hdX5_all rfl rfl ⟨by decide, by decide⟩ (by decide) ps_o45 rfl rfl (Nat.le_of_ble_eq_true rfl) dX5_covers_42 rfl ?_
  refine ps_icmp_gt C (pc := 45) 76 dX5_covers_45 (by decide) (fun hc => ?_) (fun hc => ?_)
  · have h := ps_ift hc h
    obtain rfl := Option.some.inj h
    exact ps_sub [0, 1, 2, 3] rfl k
  · have h := ps_iff hc h
    refine ps_aload_n C (pc := 48) dX5_covers_48 0 rfl ?_
    refine pg_45_17 C (pc := 49) tw_813 dX5_covers_49 ?_
    refine ps_iload C (pc := 52) dX5_covers_52 4 rfl ?_
    refine ps_aload_n C (pc := 54) dX5_covers_54 0 rfl ?_
    refine pg_45_16 C (pc := 55) tw_812 dX5_covers_55 ?_
    refine ps_iload C (pc := 58) dX5_covers_58 4 rfl ?_
    obtain ⟨hi6, h⟩ := ps_ck_s h
    refine ps_iald C (pc := 60) 52 rfl rfl hi6 dX5_covers_60 ?_
    obtain ⟨hi7, h⟩ := ps_ck_s h
    refine ps_iastL C (pc := 61) 53 rfl rfl hi7 dX5_covers_61 h (fun σ8 h => ?_)
    refine ps_aload_n C (pc := 62) dX5_covers_62 0 rfl ?_
    refine pg_45_16 C (pc := 63) tw_812 dX5_covers_63 ?_
    refine ps_iload C (pc := 66) dX5_covers_66 4 rfl ?_
    refine ps_iconst C (pc := 68) (v := 0) dX5_covers_68 (by decide) ?_
    obtain ⟨hi9, h⟩ := ps_ck_s h
    refine ps_iastL C (pc := 69) 52 rfl rfl hi9 dX5_covers_69 h (fun σ10 h => ?_)
    refine ps_iincL C (pc := 70) (zz := 1) (lw := fun x11 => [(4, .int x11), (0, .ref (z_ad z 45)), (1, .int a1), (2, .int a2), (3, .int a3)]) dX5_covers_70 4 rfl (by decide) (by decide) (fun _ => rfl) h (fun x11 h => ?_)
    refine ps_goto C (pc := 73) 39 dX5_covers_73 (by decide) ?_
    obtain rfl := Option.some.inj h
    exact ps_sub [1, 2, 3, 4, 0] rfl k
def pX5_covers_S79 (z : ps_X) (a1 : Int32) (a2 : Int32) (a3 : Int32) (s : Int32 × ps_S) : Prop := ps_at z 6 79 [(0, .ref (z_ad z 45)), (1, .int a1), (2, .int a2), (3, .int a3), (4, .int s.1)] [] s.2
def qX5_covers_S79 (z : ps_X) (a1 : Int32) (a2 : Int32) (a3 : Int32) (x : (ps_S)) : Prop := match x with | y => ps_at z 6 171 [(0, .ref (z_ad z 45)), (1, .int a1), (2, .int a2), (3, .int a3)] [] y
def pX5_covers_S91 (z : ps_X) (a1 : Int32) (a2 : Int32) (a3 : Int32) (a4 : Int32) (s : Int32 × ps_S) : Prop := ps_at z 6 91 [(0, .ref (z_ad z 45)), (1, .int a1), (2, .int a2), (3, .int a3), (4, .int a4), (5, .int s.1)] [] s.2
def qX5_covers_S91 (z : ps_X) (a1 : Int32) (a2 : Int32) (a3 : Int32) (a4 : Int32) (x : (ps_S)) : Prop := match x with | y => ps_at z 6 165 [(0, .ref (z_ad z 45)), (1, .int a1), (2, .int a2), (3, .int a3), (4, .int a4)] [] y
def fX5_covers_J159 (a1 : Int32) (a2 : Int32) (a3 : Int32) (a4 : Int32) (a5 : Int32) (σ : ps_S) : Option ((Int32 × ps_S) ⊕ ((ps_S))) :=
  (ps_let (a5 + (1 : Int32)) fun x16 =>
  some (.inl (x16, σ)))
set_option maxHeartbeats 4000000 in
set_option maxRecDepth 100000 in
theorem tX5_covers_J159 {z : ps_X} (C : ps_C z cX5_covers 6 "PartSumsModel") (Z : ps_Z z 3 61) {a1 : Int32} {a2 : Int32} {a3 : Int32} {a4 : Int32} {a5 : Int32} {σ : ps_S}  {r : (Int32 × ps_S) ⊕ ((ps_S))} (h : fX5_covers_J159 a1 a2 a3 a4 a5 σ = some r) (k : ps_k (pX5_covers_S91 z a1 a2 a3 a4) (qX5_covers_S91 z a1 a2 a3 a4) r) : ps_at z 6 159 [(0, .ref (z_ad z 45)), (1, .int a1), (2, .int a2), (3, .int a3), (4, .int a4), (5, .int a5)] [] σ := by
  unfold fX5_covers_J159 at h
  refine ps_iincL C (pc := 159) (zz := 1) (lw := fun x16 => [(5, .int x16), (0, .ref (z_ad z 45)), (1, .int a1), (2, .int a2), (3, .int a3), (4, .int a4)]) dX5_covers_159 5 rfl (by decide) (by decide) (fun _ => rfl) h (fun x16 h => ?_)
  refine ps_goto C (pc := 162) 91 dX5_covers_162 (by decide) ?_
  obtain rfl := Option.some.inj h
  exact ps_sub [1, 2, 3, 4, 5, 0] rfl k
def fX5_covers_S91 (a1 : Int32) (a2 : Int32) (a3 : Int32) (a4 : Int32) (a5 : Int32) (σ : ps_S) : Option ((Int32 × ps_S) ⊕ ((ps_S))) :=
  ((fX5_all σ).bind fun q14 =>
  (if q14 < a5 then some (.inr σ)
  else (ps_ck a4 256 ((if (σ.1 53 (Int32.toNatClampNeg a4)) ≤ 0 then fX5_covers_J159 a1 a2 a3 a4 a5 σ
  else ((fX5_isTold a5 σ).bind fun q17 =>
  (if q17 = 0 then fX5_covers_J159 a1 a2 a3 a4 a5 σ
  else (if (a5 &&& (a1 ^^^ (-1 : Int32))) = 0 then (ps_ck (a4 ||| a5) 256 ((ps_ck a4 256 ((ps_ck (a4 ||| a5) 256 ((ps_let (ps_ui σ 52 (Int32.toNatClampNeg (a4 ||| a5)) (((σ.1 52 (Int32.toNatClampNeg (a4 ||| a5))) + (σ.1 53 (Int32.toNatClampNeg a4))) - ((σ.1 52 (Int32.toNatClampNeg (a4 ||| a5))) + (σ.1 53 (Int32.toNatClampNeg a4))) / (1000003 : Int32) * (1000003 : Int32))) fun σ21 =>
  fX5_covers_J159 a1 a2 a3 a4 a5 σ21)))))))
  else fX5_covers_J159 a1 a2 a3 a4 a5 σ))))))))
set_option maxHeartbeats 4000000 in
set_option maxRecDepth 100000 in
theorem tX5_covers_S91 {z : ps_X} (C : ps_C z cX5_covers 6 "PartSumsModel") (Z : ps_Z z 3 61) (a1 : Int32) (a2 : Int32) (a3 : Int32) (a4 : Int32)  (s : Int32 × ps_S) (r : (Int32 × ps_S) ⊕ ((ps_S))) (h : fX5_covers_S91 a1 a2 a3 a4 s.1 s.2 = some r) (k : ps_k (pX5_covers_S91 z a1 a2 a3 a4) (qX5_covers_S91 z a1 a2 a3 a4) r) : pX5_covers_S91 z a1 a2 a3 a4 s := by
  obtain ⟨a5, σ⟩ := s
  unfold fX5_covers_S91 at h
  unfold pX5_covers_S91
  refine ps_iload C (pc := 91) dX5_covers_91 5 rfl ?_
  refine ps_aload_n C (pc := 93) dX5_covers_93 0 rfl ?_
  obtain ⟨q14, hq14, h⟩ := ps_bd h
  refine ps_callVI C Z (pc := 94) (As := []) (k0 := 45) (mX5_all  hq14) (Cn := "PartSumsModel") rfl tw_954 tw_956 tw_38 tw_70 tw_957 hdX5_all rfl rfl ⟨by decide, by decide⟩ (by decide) ps_o45 rfl rfl (Nat.le_of_ble_eq_true rfl) dX5_covers_94 rfl ?_
  refine ps_icmp_gt C (pc := 97) 165 dX5_covers_97 (by decide) (fun hc => ?_) (fun hc => ?_)
  · have h := ps_ift hc h
    obtain rfl := Option.some.inj h
    exact ps_sub [0, 1, 2, 3, 4] rfl k
  · have h := ps_iff hc h
    refine ps_aload_n C (pc := 100) dX5_covers_100 0 rfl ?_
    refine pg_45_17 C (pc := 101) tw_813 dX5_covers_101 ?_
    refine ps_iload C (pc := 104) dX5_covers_104 4 rfl ?_
    obtain ⟨hi15, h⟩ := ps_ck_s h
    refine ps_iald C (pc := 106) 53 rfl rfl hi15 dX5_covers_106 ?_
    refine ps_if_le C (pc := 107) 159 dX5_covers_107 (by decide) (fun hc => ?_) (fun hc => ?_)
    · have h := ps_ift hc h
      exact ps_sub [0, 1, 2, 3, 4, 5] rfl (tX5_covers_J159 C Z  h k)
    · have h := ps_iff hc h
      refine ps_aload_n C (pc := 110) dX5_covers_110 0 rfl ?_
      refine ps_iload C (pc := 111) dX5_covers_111 5 rfl ?_
      obtain ⟨q17, hq17, h⟩ := ps_bd h
      refine ps_callVI C Z (pc := 113) (As := [.int a5]) (k0 := 45) (mX5_isTold  hq17) (Cn := "PartSumsModel") rfl tw_1081 tw_1083 tw_54 tw_70 tw_1084 hdX5_isTold rfl rfl ⟨by decide, by decide⟩ (by decide) ps_o45 rfl rfl (Nat.le_of_ble_eq_true rfl) dX5_covers_113 rfl ?_
      refine ps_if_eq C (pc := 116) 159 dX5_covers_116 (by decide) (fun hc => ?_) (fun hc => ?_)
      · have h := ps_ift hc h
        exact ps_sub [0, 1, 2, 3, 4, 5] rfl (tX5_covers_J159 C Z  h k)
      · have h := ps_iff hc h
        refine ps_iload C (pc := 119) dX5_covers_119 5 rfl ?_
        refine ps_iload_n C (pc := 121) dX5_covers_121 1 rfl ?_
        refine ps_iconst C (pc := 122) (v := -1) dX5_covers_122 (by decide) ?_
        refine ps_ixor C (pc := 123) dX5_covers_123 ?_
        refine ps_iand C (pc := 124) dX5_covers_124 ?_
        refine ps_if_ne C (pc := 125) 159 dX5_covers_125 (by decide) (fun hc => ?_) (fun hc => ?_)
        · have h := ps_iff hc h
          exact ps_sub [0, 1, 2, 3, 4, 5] rfl (tX5_covers_J159 C Z  h k)
        · have h := ps_ift hc h
          refine ps_aload_n C (pc := 128) dX5_covers_128 0 rfl ?_
          refine pg_45_16 C (pc := 129) tw_812 dX5_covers_129 ?_
          refine ps_iload C (pc := 132) dX5_covers_132 4 rfl ?_
          refine ps_iload C (pc := 134) dX5_covers_134 5 rfl ?_
          refine ps_ior C (pc := 136) dX5_covers_136 ?_
          refine ps_aload_n C (pc := 137) dX5_covers_137 0 rfl ?_
          refine pg_45_16 C (pc := 138) tw_812 dX5_covers_138 ?_
          refine ps_iload C (pc := 141) dX5_covers_141 4 rfl ?_
          refine ps_iload C (pc := 143) dX5_covers_143 5 rfl ?_
          refine ps_ior C (pc := 145) dX5_covers_145 ?_
          obtain ⟨hi18, h⟩ := ps_ck_s h
          refine ps_iald C (pc := 146) 52 rfl rfl hi18 dX5_covers_146 ?_
          refine ps_aload_n C (pc := 147) dX5_covers_147 0 rfl ?_
          refine pg_45_17 C (pc := 148) tw_813 dX5_covers_148 ?_
          refine ps_iload C (pc := 151) dX5_covers_151 4 rfl ?_
          obtain ⟨hi19, h⟩ := ps_ck_s h
          refine ps_iald C (pc := 153) 53 rfl rfl hi19 dX5_covers_153 ?_
          refine ps_iadd C (pc := 154) dX5_covers_154 ?_
          refine ps_ldc C (pc := 155) tw_1085 dX5_covers_155 ?_
          refine ps_irem C (pc := 157) dX5_covers_157 (by decide) ?_
          obtain ⟨hi20, h⟩ := ps_ck_s h
          refine ps_iastL C (pc := 158) 52 rfl rfl hi20 dX5_covers_158 h (fun σ21 h => ?_)
          exact ps_sub [0, 1, 2, 3, 4, 5] rfl (tX5_covers_J159 C Z  h k)
def fX5_covers_S79 (a1 : Int32) (a2 : Int32) (a3 : Int32) (a4 : Int32) (σ : ps_S) : Option ((Int32 × ps_S) ⊕ ((ps_S))) :=
  ((fX5_all σ).bind fun q13 =>
  (if q13 < a4 then some (.inr σ)
  else ((ps_lp (fun s => fX5_covers_S91 a1 a2 a3 a4 s.1 s.2) 100000 ((0 : Int32), σ)).bind fun e22 =>
  (ps_let (a4 + (1 : Int32)) fun x23 =>
  some (.inl (x23, e22))))))
set_option maxHeartbeats 4000000 in
set_option maxRecDepth 100000 in
theorem tX5_covers_S79 {z : ps_X} (C : ps_C z cX5_covers 6 "PartSumsModel") (Z : ps_Z z 3 61) (a1 : Int32) (a2 : Int32) (a3 : Int32)  (s : Int32 × ps_S) (r : (Int32 × ps_S) ⊕ ((ps_S))) (h : fX5_covers_S79 a1 a2 a3 s.1 s.2 = some r) (k : ps_k (pX5_covers_S79 z a1 a2 a3) (qX5_covers_S79 z a1 a2 a3) r) : pX5_covers_S79 z a1 a2 a3 s := by
  obtain ⟨a4, σ⟩ := s
  unfold fX5_covers_S79 at h
  unfold pX5_covers_S79
  refine ps_iload C (pc := 79) dX5_covers_79 4 rfl ?_
  refine ps_aload_n C (pc := 81) dX5_covers_81 0 rfl ?_
  obtain ⟨q13, hq13, h⟩ := ps_bd h
  refine ps_callVI C Z (pc := 82) (As := []) (k0 := 45) (mX5_all  hq13) (Cn := "PartSumsModel") rfl tw_954 tw_956 tw_38 tw_70 tw_957 hdX5_all rfl rfl ⟨by decide, by decide⟩ (by decide) ps_o45 rfl rfl (Nat.le_of_ble_eq_true rfl) dX5_covers_82 rfl ?_
  refine ps_icmp_gt C (pc := 85) 171 dX5_covers_85 (by decide) (fun hc => ?_) (fun hc => ?_)
  · have h := ps_ift hc h
    obtain rfl := Option.some.inj h
    exact ps_sub [0, 1, 2, 3] rfl k
  · have h := ps_iff hc h
    refine ps_iconst C (pc := 88) (v := 0) dX5_covers_88 (by decide) ?_
    refine ps_istore C (pc := 89) (lv' := [(5, .int (0 : Int32)), (0, .ref (z_ad z 45)), (1, .int a1), (2, .int a2), (3, .int a3), (4, .int a4)]) dX5_covers_89 (by decide) rfl ?_
    obtain ⟨e22, he22, h⟩ := ps_bd h
    refine ps_sub [1, 2, 3, 4, 5, 0] rfl ?_
    refine ps_loop (P := pX5_covers_S91 z a1 a2 a3 a4) (K := qX5_covers_S91 z a1 a2 a3 a4) (fun s r h k => tX5_covers_S91 C Z a1 a2 a3 a4  s r h k) _ _ _ he22 ?_
    unfold qX5_covers_S91
    refine ps_iincL C (pc := 165) (zz := 1) (lw := fun x23 => [(4, .int x23), (0, .ref (z_ad z 45)), (1, .int a1), (2, .int a2), (3, .int a3)]) dX5_covers_165 4 rfl (by decide) (by decide) (fun _ => rfl) h (fun x23 h => ?_)
    refine ps_goto C (pc := 168) 79 dX5_covers_168 (by decide) ?_
    obtain rfl := Option.some.inj h
    exact ps_sub [1, 2, 3, 4, 0] rfl k
def fX5_covers_S31 (a1 : Int32) (a2 : Int32) (a3 : Int32) (σ : ps_S) : Option ((Int32 × ps_S) ⊕ ((ps_S))) :=
  (if a2 ≤ a3 then some (.inr σ)
  else ((ps_lp (fun s => fX5_covers_S39 a1 a2 a3 s.1 s.2) 100000 ((0 : Int32), σ)).bind fun e12 =>
  ((ps_lp (fun s => fX5_covers_S79 a1 a2 a3 s.1 s.2) 100000 ((0 : Int32), e12)).bind fun e24 =>
  (ps_let (a3 + (1 : Int32)) fun x25 =>
  some (.inl (x25, e24))))))
set_option maxHeartbeats 4000000 in
set_option maxRecDepth 100000 in
theorem tX5_covers_S31 {z : ps_X} (C : ps_C z cX5_covers 6 "PartSumsModel") (Z : ps_Z z 3 61) (a1 : Int32) (a2 : Int32)  (s : Int32 × ps_S) (r : (Int32 × ps_S) ⊕ ((ps_S))) (h : fX5_covers_S31 a1 a2 s.1 s.2 = some r) (k : ps_k (pX5_covers_S31 z a1 a2) (qX5_covers_S31 z a1 a2) r) : pX5_covers_S31 z a1 a2 s := by
  obtain ⟨a3, σ⟩ := s
  unfold fX5_covers_S31 at h
  unfold pX5_covers_S31
  refine ps_iload_n C (pc := 31) dX5_covers_31 3 rfl ?_
  refine ps_iload_n C (pc := 32) dX5_covers_32 2 rfl ?_
  refine ps_icmp_ge C (pc := 33) 177 dX5_covers_33 (by decide) (fun hc => ?_) (fun hc => ?_)
  · have h := ps_ift hc h
    obtain rfl := Option.some.inj h
    exact ps_sub [0, 1] rfl k
  · have h := ps_iff hc h
    refine ps_iconst C (pc := 36) (v := 0) dX5_covers_36 (by decide) ?_
    refine ps_istore C (pc := 37) (lv' := [(4, .int (0 : Int32)), (0, .ref (z_ad z 45)), (1, .int a1), (2, .int a2), (3, .int a3)]) dX5_covers_37 (by decide) rfl ?_
    obtain ⟨e12, he12, h⟩ := ps_bd h
    refine ps_sub [1, 2, 3, 4, 0] rfl ?_
    refine ps_loop (P := pX5_covers_S39 z a1 a2 a3) (K := qX5_covers_S39 z a1 a2 a3) (fun s r h k => tX5_covers_S39 C Z a1 a2 a3  s r h k) _ _ _ he12 ?_
    unfold qX5_covers_S39
    refine ps_iconst C (pc := 76) (v := 0) dX5_covers_76 (by decide) ?_
    refine ps_istore C (pc := 77) (lv' := [(4, .int (0 : Int32)), (0, .ref (z_ad z 45)), (1, .int a1), (2, .int a2), (3, .int a3)]) dX5_covers_77 (by decide) rfl ?_
    obtain ⟨e24, he24, h⟩ := ps_bd h
    refine ps_sub [1, 2, 3, 4, 0] rfl ?_
    refine ps_loop (P := pX5_covers_S79 z a1 a2 a3) (K := qX5_covers_S79 z a1 a2 a3) (fun s r h k => tX5_covers_S79 C Z a1 a2 a3  s r h k) _ _ _ he24 ?_
    unfold qX5_covers_S79
    refine ps_iincL C (pc := 171) (zz := 1) (lw := fun x25 => [(3, .int x25), (0, .ref (z_ad z 45)), (1, .int a1), (2, .int a2)]) dX5_covers_171 3 rfl (by decide) (by decide) (fun _ => rfl) h (fun x25 h => ?_)
    refine ps_goto C (pc := 174) 31 dX5_covers_174 (by decide) ?_
    obtain rfl := Option.some.inj h
    exact ps_sub [1, 2, 3, 0] rfl k
def fX5_covers (a1 : Int32) (a2 : Int32) (σ : ps_S) : Option (Int32 × ps_S) :=
  (ps_let (ps_ui σ 45 0 (0 : Int32)) fun σ1 =>
  ((fX5_isSet a1 σ1).bind fun q2 =>
  (if q2 = 0 then some ((-1 : Int32), σ1)
  else ((fX5_isIn a2 (0 : Int32) (8 : Int32)).bind fun q3 =>
  (if q3 = 0 then some ((-1 : Int32), σ1)
  else ((fX5_laysOne σ1).bind fun q4 =>
  ((ps_lp (fun s => fX5_covers_S31 a1 a2 s.1 s.2) 100000 ((0 : Int32), q4)).bind fun e26 =>
  (ps_ck a1 256 (some ((e26.1 52 (Int32.toNatClampNeg a1)), e26))))))))))
set_option maxHeartbeats 4000000 in
set_option maxRecDepth 100000 in
theorem tX5_covers {z : ps_X} (C : ps_C z cX5_covers 6 "PartSumsModel") (Z : ps_Z z 3 61) {a1 : Int32} {a2 : Int32} {σ : ps_S}  {r : Int32 × ps_S} (h : fX5_covers a1 a2 σ = some r) (k : ps_KI z 6 cX5_covers r.1 r.2) : ps_at z 6 0 [(0, .ref (z_ad z 45)), (1, .int a1), (2, .int a2)] [] σ := by
  unfold fX5_covers at h
  refine ps_aload_n C (pc := 0) dX5_covers_0 0 rfl ?_
  refine ps_iconst C (pc := 1) (v := 0) dX5_covers_1 (by decide) ?_
  refine pp_45_0 C (pc := 2) tw_796 dX5_covers_2 h (fun σ1 h => ?_)
  refine ps_aload_n C (pc := 5) dX5_covers_5 0 rfl ?_
  refine ps_iload_n C (pc := 6) dX5_covers_6 1 rfl ?_
  obtain ⟨q2, hq2, h⟩ := ps_bd h
  refine ps_callVI C Z (pc := 7) (As := [.int a1]) (k0 := 45) (mX5_isSet  hq2) (Cn := "PartSumsModel") rfl tw_966 tw_968 tw_40 tw_70 tw_969 hdX5_isSet rfl rfl ⟨by decide, by decide⟩ (by decide) ps_o45 rfl rfl (Nat.le_of_ble_eq_true rfl) dX5_covers_7 rfl ?_
  refine ps_if_eq C (pc := 10) 23 dX5_covers_10 (by decide) (fun hc => ?_) (fun hc => ?_)
  · have h := ps_ift hc h
    refine ps_iconst C (pc := 23) (v := -1) dX5_covers_23 (by decide) ?_
    obtain rfl := Option.some.inj h
    exact k _ _ dX5_covers_24
  · have h := ps_iff hc h
    refine ps_iload_n C (pc := 13) dX5_covers_13 2 rfl ?_
    refine ps_iconst C (pc := 14) (v := 0) dX5_covers_14 (by decide) ?_
    refine ps_bipush C (pc := 15) (v := 8) dX5_covers_15 (by decide) ?_
    obtain ⟨q3, hq3, h⟩ := ps_bd h
    refine ps_callSI C Z (pc := 17) (As := [.int a2, .int (0 : Int32), .int (8 : Int32)]) (mX5_isIn  hq3) tw_904 tw_905 tw_70 tw_906 hdX5_isIn rfl rfl ⟨by decide, by decide⟩ rfl (Nat.le_of_ble_eq_true rfl) dX5_covers_17 rfl ?_
    refine ps_if_ne C (pc := 20) 25 dX5_covers_20 (by decide) (fun hc => ?_) (fun hc => ?_)
    · have h := ps_iff hc h
      refine ps_aload_n C (pc := 25) dX5_covers_25 0 rfl ?_
      obtain ⟨q4, hq4, h⟩ := ps_bd h
      refine ps_callVV C Z (pc := 26) (As := []) (k0 := 45) (mX5_laysOne  hq4) (Cn := "PartSumsModel") rfl tw_1053 tw_1055 tw_52 tw_70 tw_1056 hdX5_laysOne rfl rfl ⟨by decide, by decide⟩ (by decide) ps_o45 rfl rfl (Nat.le_of_ble_eq_true rfl) dX5_covers_26 rfl ?_
      refine ps_iconst C (pc := 29) (v := 0) dX5_covers_29 (by decide) ?_
      refine ps_istore_n C (pc := 30) (lv' := [(3, .int (0 : Int32)), (0, .ref (z_ad z 45)), (1, .int a1), (2, .int a2)]) dX5_covers_30 (by decide) rfl ?_
      obtain ⟨e26, he26, h⟩ := ps_bd h
      refine ps_sub [1, 2, 3, 0] rfl ?_
      refine ps_loop (P := pX5_covers_S31 z a1 a2) (K := qX5_covers_S31 z a1 a2) (fun s r h k => tX5_covers_S31 C Z a1 a2  s r h k) _ _ _ he26 ?_
      unfold qX5_covers_S31
      refine ps_aload_n C (pc := 177) dX5_covers_177 0 rfl ?_
      refine pg_45_16 C (pc := 178) tw_812 dX5_covers_178 ?_
      refine ps_iload_n C (pc := 181) dX5_covers_181 1 rfl ?_
      obtain ⟨hi27, h⟩ := ps_ck_s h
      refine ps_iald C (pc := 182) 52 rfl rfl hi27 dX5_covers_182 ?_
      obtain rfl := Option.some.inj h
      exact k _ _ dX5_covers_183
    · have h := ps_ift hc h
      refine ps_iconst C (pc := 23) (v := -1) dX5_covers_23 (by decide) ?_
      obtain rfl := Option.some.inj h
      exact k _ _ dX5_covers_24
def rmX5_covers : Room := { frames := 3, cells := 0, slots := 0, locals := 61 }
theorem mX5_covers {l : Launch} {E : ps_E} {σ : ps_S} {a1 : Int32} {a2 : Int32} {r : Int32 × ps_S}  (h : fX5_covers a1 a2 σ = some r) : ps_MI l yX5_covers (ps_wm yX5_covers cX5_covers 6 (some .int)) rmX5_covers [.ref (e_ad E 45), .int a1, .int a2] E σ r.1 r.2 :=
  ps_metI yX5_covers rmX5_covers 6 (own := "PartSumsModel") r.1 (by decide +kernel) rfl (Nat.le_of_ble_eq_true rfl) rfl (fun z e1 e2 e3 e4 e5 C k => by
    subst e5
    exact tX5_covers C (ps_Zof e1 e3 e4)  h k)
theorem hdX5_covers : yX5_covers.cls ≠ "java/lang/invoke/MethodHandle" ∧ yX5_covers.cls ≠ "java/lang/invoke/VarHandle" ∧ (parseMethodDescriptor yX5_covers.desc).map (fun d => d.parameters.length) = some 2 := by decide +kernel
def pX5_laysWays_S2 (z : ps_X)  (s : Int32 × ps_S) : Prop := ps_at z 4 2 [(0, .ref (z_ad z 45)), (1, .int s.1)] [] s.2
def qX5_laysWays_S2 (z : ps_X)  (x : (ps_S)) : Prop := match x with | y => ps_at z 4 134 [] [] y
def pX5_laysWays_S12 (z : ps_X) (a1 : Int32) (s : Int32 × ps_S) : Prop := ps_at z 4 12 [(0, .ref (z_ad z 45)), (1, .int a1), (2, .int s.1)] [] s.2
def qX5_laysWays_S12 (z : ps_X) (a1 : Int32) (x : (ps_S)) : Prop := match x with | y => ps_at z 4 48 [(0, .ref (z_ad z 45)), (1, .int a1)] [] y
def fX5_laysWays_J41 (a1 : Int32) (a2 : Int32) (u0 : Int32) (u1 : Int32) (σ : ps_S) : Option ((Int32 × ps_S) ⊕ ((ps_S))) :=
  (ps_ck u1 2304 ((ps_let (ps_ui σ 54 (Int32.toNatClampNeg u1) u0) fun σ3 =>
  (ps_let (a2 + (1 : Int32)) fun x4 =>
  some (.inl (x4, σ3))))))
set_option maxHeartbeats 4000000 in
set_option maxRecDepth 100000 in
theorem tX5_laysWays_J41 {z : ps_X} (C : ps_C z cX5_laysWays 4 "PartSumsModel") (Z : ps_Z z 2 40) {a1 : Int32} {a2 : Int32} {u0 : Int32} {u1 : Int32} {σ : ps_S}  {r : (Int32 × ps_S) ⊕ ((ps_S))} (h : fX5_laysWays_J41 a1 a2 u0 u1 σ = some r) (k : ps_k (pX5_laysWays_S12 z a1) (qX5_laysWays_S12 z a1) r) : ps_at z 4 41 [(0, .ref (z_ad z 45)), (1, .int a1), (2, .int a2)] [.int u0, .int u1, .ref (z_ad z 54)] σ := by
  unfold fX5_laysWays_J41 at h
  obtain ⟨hi2, h⟩ := ps_ck_s h
  refine ps_iastL C (pc := 41) 54 rfl rfl hi2 dX5_laysWays_41 h (fun σ3 h => ?_)
  refine ps_iincL C (pc := 42) (zz := 1) (lw := fun x4 => [(2, .int x4), (0, .ref (z_ad z 45)), (1, .int a1)]) dX5_laysWays_42 2 rfl (by decide) (by decide) (fun _ => rfl) h (fun x4 h => ?_)
  refine ps_goto C (pc := 45) 12 dX5_laysWays_45 (by decide) ?_
  obtain rfl := Option.some.inj h
  exact ps_sub [1, 2, 0] rfl k
def fX5_laysWays_J40 (a1 : Int32) (a2 : Int32) (u0 : Int32) (σ : ps_S) : Option ((Int32 × ps_S) ⊕ ((ps_S))) :=
  fX5_laysWays_J41 a1 a2 (0 : Int32) u0 σ
set_option maxHeartbeats 4000000 in
set_option maxRecDepth 100000 in
theorem tX5_laysWays_J40 {z : ps_X} (C : ps_C z cX5_laysWays 4 "PartSumsModel") (Z : ps_Z z 2 40) {a1 : Int32} {a2 : Int32} {u0 : Int32} {σ : ps_S}  {r : (Int32 × ps_S) ⊕ ((ps_S))} (h : fX5_laysWays_J40 a1 a2 u0 σ = some r) (k : ps_k (pX5_laysWays_S12 z a1) (qX5_laysWays_S12 z a1) r) : ps_at z 4 40 [(0, .ref (z_ad z 45)), (1, .int a1), (2, .int a2)] [.int u0, .ref (z_ad z 54)] σ := by
  unfold fX5_laysWays_J40 at h
  refine ps_iconst C (pc := 40) (v := 0) dX5_laysWays_40 (by decide) ?_
  exact ps_sub [0, 1, 2] rfl (tX5_laysWays_J41 C Z  h k)
def fX5_laysWays_S12 (a1 : Int32) (a2 : Int32) (σ : ps_S) : Option ((Int32 × ps_S) ⊕ ((ps_S))) :=
  (if (8 : Int32) < a2 then some (.inr σ)
  else (if a1 = 0 then (if a2 = 0 then fX5_laysWays_J41 a1 a2 (1 : Int32) (((9 : Int32) * a1) + a2) σ
  else fX5_laysWays_J40 a1 a2 (((9 : Int32) * a1) + a2) σ)
  else fX5_laysWays_J40 a1 a2 (((9 : Int32) * a1) + a2) σ))
set_option maxHeartbeats 4000000 in
set_option maxRecDepth 100000 in
theorem tX5_laysWays_S12 {z : ps_X} (C : ps_C z cX5_laysWays 4 "PartSumsModel") (Z : ps_Z z 2 40) (a1 : Int32)  (s : Int32 × ps_S) (r : (Int32 × ps_S) ⊕ ((ps_S))) (h : fX5_laysWays_S12 a1 s.1 s.2 = some r) (k : ps_k (pX5_laysWays_S12 z a1) (qX5_laysWays_S12 z a1) r) : pX5_laysWays_S12 z a1 s := by
  obtain ⟨a2, σ⟩ := s
  unfold fX5_laysWays_S12 at h
  unfold pX5_laysWays_S12
  refine ps_iload_n C (pc := 12) dX5_laysWays_12 2 rfl ?_
  refine ps_bipush C (pc := 13) (v := 8) dX5_laysWays_13 (by decide) ?_
  refine ps_icmp_gt C (pc := 15) 48 dX5_laysWays_15 (by decide) (fun hc => ?_) (fun hc => ?_)
  · have h := ps_ift hc h
    obtain rfl := Option.some.inj h
    exact ps_sub [0, 1] rfl k
  · have h := ps_iff hc h
    refine ps_aload_n C (pc := 18) dX5_laysWays_18 0 rfl ?_
    refine pg_45_18 C (pc := 19) tw_814 dX5_laysWays_19 ?_
    refine ps_bipush C (pc := 22) (v := 9) dX5_laysWays_22 (by decide) ?_
    refine ps_iload_n C (pc := 24) dX5_laysWays_24 1 rfl ?_
    refine ps_imul C (pc := 25) dX5_laysWays_25 ?_
    refine ps_iload_n C (pc := 26) dX5_laysWays_26 2 rfl ?_
    refine ps_iadd C (pc := 27) dX5_laysWays_27 ?_
    refine ps_iload_n C (pc := 28) dX5_laysWays_28 1 rfl ?_
    refine ps_if_ne C (pc := 29) 40 dX5_laysWays_29 (by decide) (fun hc => ?_) (fun hc => ?_)
    · have h := ps_iff hc h
      exact ps_sub [0, 1, 2] rfl (tX5_laysWays_J40 C Z  h k)
    · have h := ps_ift hc h
      refine ps_iload_n C (pc := 32) dX5_laysWays_32 2 rfl ?_
      refine ps_if_ne C (pc := 33) 40 dX5_laysWays_33 (by decide) (fun hc => ?_) (fun hc => ?_)
      · have h := ps_iff hc h
        exact ps_sub [0, 1, 2] rfl (tX5_laysWays_J40 C Z  h k)
      · have h := ps_ift hc h
        refine ps_iconst C (pc := 36) (v := 1) dX5_laysWays_36 (by decide) ?_
        refine ps_goto C (pc := 37) 41 dX5_laysWays_37 (by decide) ?_
        exact ps_sub [0, 1, 2] rfl (tX5_laysWays_J41 C Z  h k)
def pX5_laysWays_S50 (z : ps_X) (a1 : Int32) (s : Int32 × ps_S) : Prop := ps_at z 4 50 [(0, .ref (z_ad z 45)), (1, .int a1), (2, .int s.1)] [] s.2
def qX5_laysWays_S50 (z : ps_X) (a1 : Int32) (x : (ps_S)) : Prop := match x with | y => ps_at z 4 128 [(0, .ref (z_ad z 45)), (1, .int a1)] [] y
def fX5_laysWays_J119 (a1 : Int32) (a2 : Int32) (σ : ps_S) : Option ((Int32 × ps_S) ⊕ ((ps_S))) :=
  (ps_let ((a2 - (1 : Int32)) &&& a1) fun x6 =>
  some (.inl (x6, σ)))
set_option maxHeartbeats 4000000 in
set_option maxRecDepth 100000 in
theorem tX5_laysWays_J119 {z : ps_X} (C : ps_C z cX5_laysWays 4 "PartSumsModel") (Z : ps_Z z 2 40) {a1 : Int32} {a2 : Int32} {σ : ps_S}  {r : (Int32 × ps_S) ⊕ ((ps_S))} (h : fX5_laysWays_J119 a1 a2 σ = some r) (k : ps_k (pX5_laysWays_S50 z a1) (qX5_laysWays_S50 z a1) r) : ps_at z 4 119 [(0, .ref (z_ad z 45)), (1, .int a1), (2, .int a2)] [] σ := by
  unfold fX5_laysWays_J119 at h
  refine ps_iload_n C (pc := 119) dX5_laysWays_119 2 rfl ?_
  refine ps_iconst C (pc := 120) (v := 1) dX5_laysWays_120 (by decide) ?_
  refine ps_isub C (pc := 121) dX5_laysWays_121 ?_
  refine ps_iload_n C (pc := 122) dX5_laysWays_122 1 rfl ?_
  refine ps_iand C (pc := 123) dX5_laysWays_123 ?_
  refine ps_istoreL_n C (pc := 124) (lw := fun x6 => [(2, .int x6), (0, .ref (z_ad z 45)), (1, .int a1)]) dX5_laysWays_124 (by decide) (fun _ => rfl) h (fun x6 h => ?_)
  refine ps_goto C (pc := 125) 50 dX5_laysWays_125 (by decide) ?_
  obtain rfl := Option.some.inj h
  exact ps_sub [1, 2, 0] rfl k
def pX5_laysWays_S76 (z : ps_X) (a1 : Int32) (a2 : Int32) (s : Int32 × ps_S) : Prop := ps_at z 4 76 [(0, .ref (z_ad z 45)), (1, .int a1), (2, .int a2), (3, .int s.1)] [] s.2
def qX5_laysWays_S76 (z : ps_X) (a1 : Int32) (a2 : Int32) (x : (ps_S)) : Prop := match x with | y => ps_at z 4 119 [(0, .ref (z_ad z 45)), (1, .int a1), (2, .int a2)] [] y
def fX5_laysWays_S76 (a1 : Int32) (a2 : Int32) (a3 : Int32) (σ : ps_S) : Option ((Int32 × ps_S) ⊕ ((ps_S))) :=
  (if (8 : Int32) < a3 then some (.inr σ)
  else (ps_ck (((9 : Int32) * a1) + a3) 2304 ((ps_ck ((((9 : Int32) * (a1 &&& (a2 ^^^ (-1 : Int32)))) + a3) - (1 : Int32)) 2304 ((ps_ck (((9 : Int32) * a1) + a3) 2304 ((ps_let (ps_ui σ 54 (Int32.toNatClampNeg (((9 : Int32) * a1) + a3)) ((σ.1 54 (Int32.toNatClampNeg (((9 : Int32) * a1) + a3))) + (σ.1 54 (Int32.toNatClampNeg ((((9 : Int32) * (a1 &&& (a2 ^^^ (-1 : Int32)))) + a3) - (1 : Int32)))))) fun σ11 =>
  (ps_let (a3 + (1 : Int32)) fun x12 =>
  some (.inl (x12, σ11)))))))))))
set_option maxHeartbeats 4000000 in
set_option maxRecDepth 100000 in
theorem tX5_laysWays_S76 {z : ps_X} (C : ps_C z cX5_laysWays 4 "PartSumsModel") (Z : ps_Z z 2 40) (a1 : Int32) (a2 : Int32)  (s : Int32 × ps_S) (r : (Int32 × ps_S) ⊕ ((ps_S))) (h : fX5_laysWays_S76 a1 a2 s.1 s.2 = some r) (k : ps_k (pX5_laysWays_S76 z a1 a2) (qX5_laysWays_S76 z a1 a2) r) : pX5_laysWays_S76 z a1 a2 s := by
  obtain ⟨a3, σ⟩ := s
  unfold fX5_laysWays_S76 at h
  unfold pX5_laysWays_S76
  refine ps_iload_n C (pc := 76) dX5_laysWays_76 3 rfl ?_
  refine ps_bipush C (pc := 77) (v := 8) dX5_laysWays_77 (by decide) ?_
  refine ps_icmp_gt C (pc := 79) 119 dX5_laysWays_79 (by decide) (fun hc => ?_) (fun hc => ?_)
  · have h := ps_ift hc h
    obtain rfl := Option.some.inj h
    exact ps_sub [0, 1, 2] rfl k
  · have h := ps_iff hc h
    refine ps_aload_n C (pc := 82) dX5_laysWays_82 0 rfl ?_
    refine pg_45_18 C (pc := 83) tw_814 dX5_laysWays_83 ?_
    refine ps_bipush C (pc := 86) (v := 9) dX5_laysWays_86 (by decide) ?_
    refine ps_iload_n C (pc := 88) dX5_laysWays_88 1 rfl ?_
    refine ps_imul C (pc := 89) dX5_laysWays_89 ?_
    refine ps_iload_n C (pc := 90) dX5_laysWays_90 3 rfl ?_
    refine ps_iadd C (pc := 91) dX5_laysWays_91 ?_
    refine ps_dup2_11 C (pc := 92) dX5_laysWays_92 rfl rfl ?_
    obtain ⟨hi8, h⟩ := ps_ck_s h
    refine ps_iald C (pc := 93) 54 rfl rfl hi8 dX5_laysWays_93 ?_
    refine ps_aload_n C (pc := 94) dX5_laysWays_94 0 rfl ?_
    refine pg_45_18 C (pc := 95) tw_814 dX5_laysWays_95 ?_
    refine ps_bipush C (pc := 98) (v := 9) dX5_laysWays_98 (by decide) ?_
    refine ps_iload_n C (pc := 100) dX5_laysWays_100 1 rfl ?_
    refine ps_iload_n C (pc := 101) dX5_laysWays_101 2 rfl ?_
    refine ps_iconst C (pc := 102) (v := -1) dX5_laysWays_102 (by decide) ?_
    refine ps_ixor C (pc := 103) dX5_laysWays_103 ?_
    refine ps_iand C (pc := 104) dX5_laysWays_104 ?_
    refine ps_imul C (pc := 105) dX5_laysWays_105 ?_
    refine ps_iload_n C (pc := 106) dX5_laysWays_106 3 rfl ?_
    refine ps_iadd C (pc := 107) dX5_laysWays_107 ?_
    refine ps_iconst C (pc := 108) (v := 1) dX5_laysWays_108 (by decide) ?_
    refine ps_isub C (pc := 109) dX5_laysWays_109 ?_
    obtain ⟨hi9, h⟩ := ps_ck_s h
    refine ps_iald C (pc := 110) 54 rfl rfl hi9 dX5_laysWays_110 ?_
    refine ps_iadd C (pc := 111) dX5_laysWays_111 ?_
    obtain ⟨hi10, h⟩ := ps_ck_s h
    refine ps_iastL C (pc := 112) 54 rfl rfl hi10 dX5_laysWays_112 h (fun σ11 h => ?_)
    refine ps_iincL C (pc := 113) (zz := 1) (lw := fun x12 => [(3, .int x12), (0, .ref (z_ad z 45)), (1, .int a1), (2, .int a2)]) dX5_laysWays_113 3 rfl (by decide) (by decide) (fun _ => rfl) h (fun x12 h => ?_)
    refine ps_goto C (pc := 116) 76 dX5_laysWays_116 (by decide) ?_
    obtain rfl := Option.some.inj h
    exact ps_sub [1, 2, 3, 0] rfl k
def fX5_laysWays_S50 (a1 : Int32) (a2 : Int32) (σ : ps_S) : Option ((Int32 × ps_S) ⊕ ((ps_S))) :=
  (if a2 ≤ 0 then some (.inr σ)
  else (if ((a2 &&& a1) &&& (-a1)) = 0 then fX5_laysWays_J119 a1 a2 σ
  else ((fX5_isTold a2 σ).bind fun q7 =>
  (if q7 = 0 then fX5_laysWays_J119 a1 a2 σ
  else ((ps_lp (fun s => fX5_laysWays_S76 a1 a2 s.1 s.2) 100000 ((1 : Int32), σ)).bind fun e13 =>
  fX5_laysWays_J119 a1 a2 e13)))))
set_option maxHeartbeats 4000000 in
set_option maxRecDepth 100000 in
theorem tX5_laysWays_S50 {z : ps_X} (C : ps_C z cX5_laysWays 4 "PartSumsModel") (Z : ps_Z z 2 40) (a1 : Int32)  (s : Int32 × ps_S) (r : (Int32 × ps_S) ⊕ ((ps_S))) (h : fX5_laysWays_S50 a1 s.1 s.2 = some r) (k : ps_k (pX5_laysWays_S50 z a1) (qX5_laysWays_S50 z a1) r) : pX5_laysWays_S50 z a1 s := by
  obtain ⟨a2, σ⟩ := s
  unfold fX5_laysWays_S50 at h
  unfold pX5_laysWays_S50
  refine ps_iload_n C (pc := 50) dX5_laysWays_50 2 rfl ?_
  refine ps_if_le C (pc := 51) 128 dX5_laysWays_51 (by decide) (fun hc => ?_) (fun hc => ?_)
  · have h := ps_ift hc h
    obtain rfl := Option.some.inj h
    exact ps_sub [0, 1] rfl k
  · have h := ps_iff hc h
    refine ps_iload_n C (pc := 54) dX5_laysWays_54 2 rfl ?_
    refine ps_iload_n C (pc := 55) dX5_laysWays_55 1 rfl ?_
    refine ps_iand C (pc := 56) dX5_laysWays_56 ?_
    refine ps_iload_n C (pc := 57) dX5_laysWays_57 1 rfl ?_
    refine ps_ineg C (pc := 58) dX5_laysWays_58 ?_
    refine ps_iand C (pc := 59) dX5_laysWays_59 ?_
    refine ps_if_eq C (pc := 60) 119 dX5_laysWays_60 (by decide) (fun hc => ?_) (fun hc => ?_)
    · have h := ps_ift hc h
      exact ps_sub [0, 1, 2] rfl (tX5_laysWays_J119 C Z  h k)
    · have h := ps_iff hc h
      refine ps_aload_n C (pc := 63) dX5_laysWays_63 0 rfl ?_
      refine ps_iload_n C (pc := 64) dX5_laysWays_64 2 rfl ?_
      obtain ⟨q7, hq7, h⟩ := ps_bd h
      refine ps_callVI C Z (pc := 65) (As := [.int a2]) (k0 := 45) (mX5_isTold  hq7) (Cn := "PartSumsModel") rfl tw_1081 tw_1083 tw_54 tw_70 tw_1084 hdX5_isTold rfl rfl ⟨by decide, by decide⟩ (by decide) ps_o45 rfl rfl (Nat.le_of_ble_eq_true rfl) dX5_laysWays_65 rfl ?_
      refine ps_if_ne C (pc := 68) 74 dX5_laysWays_68 (by decide) (fun hc => ?_) (fun hc => ?_)
      · have h := ps_iff hc h
        refine ps_iconst C (pc := 74) (v := 1) dX5_laysWays_74 (by decide) ?_
        refine ps_istore_n C (pc := 75) (lv' := [(3, .int (1 : Int32)), (0, .ref (z_ad z 45)), (1, .int a1), (2, .int a2)]) dX5_laysWays_75 (by decide) rfl ?_
        obtain ⟨e13, he13, h⟩ := ps_bd h
        refine ps_sub [1, 2, 3, 0] rfl ?_
        refine ps_loop (P := pX5_laysWays_S76 z a1 a2) (K := qX5_laysWays_S76 z a1 a2) (fun s r h k => tX5_laysWays_S76 C Z a1 a2  s r h k) _ _ _ he13 ?_
        unfold qX5_laysWays_S76
        exact ps_sub [0, 1, 2] rfl (tX5_laysWays_J119 C Z  h k)
      · have h := ps_ift hc h
        refine ps_goto C (pc := 71) 119 dX5_laysWays_71 (by decide) ?_
        exact ps_sub [0, 1, 2] rfl (tX5_laysWays_J119 C Z  h k)
def fX5_laysWays_S2  (a1 : Int32) (σ : ps_S) : Option ((Int32 × ps_S) ⊕ ((ps_S))) :=
  ((fX5_all σ).bind fun q1 =>
  (if q1 < a1 then some (.inr σ)
  else ((ps_lp (fun s => fX5_laysWays_S12 a1 s.1 s.2) 100000 ((0 : Int32), σ)).bind fun e5 =>
  ((ps_lp (fun s => fX5_laysWays_S50 a1 s.1 s.2) 100000 (a1, e5)).bind fun e14 =>
  (ps_let (a1 + (1 : Int32)) fun x15 =>
  some (.inl (x15, e14)))))))
set_option maxHeartbeats 4000000 in
set_option maxRecDepth 100000 in
theorem tX5_laysWays_S2 {z : ps_X} (C : ps_C z cX5_laysWays 4 "PartSumsModel") (Z : ps_Z z 2 40)   (s : Int32 × ps_S) (r : (Int32 × ps_S) ⊕ ((ps_S))) (h : fX5_laysWays_S2  s.1 s.2 = some r) (k : ps_k (pX5_laysWays_S2 z ) (qX5_laysWays_S2 z ) r) : pX5_laysWays_S2 z  s := by
  obtain ⟨a1, σ⟩ := s
  unfold fX5_laysWays_S2 at h
  unfold pX5_laysWays_S2
  refine ps_iload_n C (pc := 2) dX5_laysWays_2 1 rfl ?_
  refine ps_aload_n C (pc := 3) dX5_laysWays_3 0 rfl ?_
  obtain ⟨q1, hq1, h⟩ := ps_bd h
  refine ps_callVI C Z (pc := 4) (As := []) (k0 := 45) (mX5_all  hq1) (Cn := "PartSumsModel") rfl tw_954 tw_956 tw_38 tw_70 tw_957 hdX5_all rfl rfl ⟨by decide, by decide⟩ (by decide) ps_o45 rfl rfl (Nat.le_of_ble_eq_true rfl) dX5_laysWays_4 rfl ?_
  refine ps_icmp_gt C (pc := 7) 134 dX5_laysWays_7 (by decide) (fun hc => ?_) (fun hc => ?_)
  · have h := ps_ift hc h
    obtain rfl := Option.some.inj h
    exact ps_sub [] rfl k
  · have h := ps_iff hc h
    refine ps_iconst C (pc := 10) (v := 0) dX5_laysWays_10 (by decide) ?_
    refine ps_istore_n C (pc := 11) (lv' := [(2, .int (0 : Int32)), (0, .ref (z_ad z 45)), (1, .int a1)]) dX5_laysWays_11 (by decide) rfl ?_
    obtain ⟨e5, he5, h⟩ := ps_bd h
    refine ps_sub [1, 2, 0] rfl ?_
    refine ps_loop (P := pX5_laysWays_S12 z a1) (K := qX5_laysWays_S12 z a1) (fun s r h k => tX5_laysWays_S12 C Z a1  s r h k) _ _ _ he5 ?_
    unfold qX5_laysWays_S12
    refine ps_iload_n C (pc := 48) dX5_laysWays_48 1 rfl ?_
    refine ps_istore_n C (pc := 49) (lv' := [(2, .int a1), (0, .ref (z_ad z 45)), (1, .int a1)]) dX5_laysWays_49 (by decide) rfl ?_
    obtain ⟨e14, he14, h⟩ := ps_bd h
    refine ps_sub [1, 2, 0] rfl ?_
    refine ps_loop (P := pX5_laysWays_S50 z a1) (K := qX5_laysWays_S50 z a1) (fun s r h k => tX5_laysWays_S50 C Z a1  s r h k) _ _ _ he14 ?_
    unfold qX5_laysWays_S50
    refine ps_iincL C (pc := 128) (zz := 1) (lw := fun x15 => [(1, .int x15), (0, .ref (z_ad z 45))]) dX5_laysWays_128 1 rfl (by decide) (by decide) (fun _ => rfl) h (fun x15 h => ?_)
    refine ps_goto C (pc := 131) 2 dX5_laysWays_131 (by decide) ?_
    obtain rfl := Option.some.inj h
    exact ps_sub [1, 0] rfl k
def fX5_laysWays (σ : ps_S) : Option (ps_S) :=
  ((ps_lp (fun s => fX5_laysWays_S2  s.1 s.2) 100000 ((0 : Int32), σ)).bind fun e16 =>
  some e16)
set_option maxHeartbeats 4000000 in
set_option maxRecDepth 100000 in
theorem tX5_laysWays {z : ps_X} (C : ps_C z cX5_laysWays 4 "PartSumsModel") (Z : ps_Z z 2 40) {σ : ps_S}  {r : ps_S} (h : fX5_laysWays σ = some r) (k : ps_KV z 4 cX5_laysWays r) : ps_at z 4 0 [(0, .ref (z_ad z 45))] [] σ := by
  unfold fX5_laysWays at h
  refine ps_iconst C (pc := 0) (v := 0) dX5_laysWays_0 (by decide) ?_
  refine ps_istore_n C (pc := 1) (lv' := [(1, .int (0 : Int32)), (0, .ref (z_ad z 45))]) dX5_laysWays_1 (by decide) rfl ?_
  obtain ⟨e16, he16, h⟩ := ps_bd h
  refine ps_sub [1, 0] rfl ?_
  refine ps_loop (P := pX5_laysWays_S2 z ) (K := qX5_laysWays_S2 z ) (fun s r h k => tX5_laysWays_S2 C Z   s r h k) _ _ _ he16 ?_
  unfold qX5_laysWays_S2
  obtain rfl := Option.some.inj h
  exact k _ _ dX5_laysWays_134
def rmX5_laysWays : Room := { frames := 2, cells := 0, slots := 0, locals := 40 }
theorem mX5_laysWays {l : Launch} {E : ps_E} {σ : ps_S}  {r : ps_S}  (h : fX5_laysWays σ = some r) : ps_MV l yX5_laysWays (ps_wm yX5_laysWays cX5_laysWays 4 none) rmX5_laysWays [.ref (e_ad E 45)] E σ r :=
  ps_metV yX5_laysWays rmX5_laysWays 4 (own := "PartSumsModel")  (by decide +kernel) rfl (Nat.le_of_ble_eq_true rfl) rfl (fun z e1 e2 e3 e4 e5 C k => by
    subst e5
    exact tX5_laysWays C (ps_Zof e1 e3 e4)  h k)
theorem hdX5_laysWays : yX5_laysWays.cls ≠ "java/lang/invoke/MethodHandle" ∧ yX5_laysWays.cls ≠ "java/lang/invoke/VarHandle" ∧ (parseMethodDescriptor yX5_laysWays.desc).map (fun d => d.parameters.length) = some 0 := by decide +kernel
def fX5_partings (a1 : Int32) (a2 : Int32) (σ : ps_S) : Option (Int32 × ps_S) :=
  (ps_let (ps_ui σ 45 0 (0 : Int32)) fun σ1 =>
  ((fX5_isSet a1 σ1).bind fun q2 =>
  (if q2 = 0 then some ((-1 : Int32), σ1)
  else ((fX5_isIn a2 (0 : Int32) (8 : Int32)).bind fun q3 =>
  (if q3 = 0 then some ((-1 : Int32), σ1)
  else ((fX5_laysWays σ1).bind fun q4 =>
  (ps_ck (((9 : Int32) * a1) + a2) 2304 (some ((q4.1 54 (Int32.toNatClampNeg (((9 : Int32) * a1) + a2))), q4)))))))))
set_option maxHeartbeats 4000000 in
set_option maxRecDepth 100000 in
theorem tX5_partings {z : ps_X} (C : ps_C z cX5_partings 3 "PartSumsModel") (Z : ps_Z z 3 63) {a1 : Int32} {a2 : Int32} {σ : ps_S}  {r : Int32 × ps_S} (h : fX5_partings a1 a2 σ = some r) (k : ps_KI z 3 cX5_partings r.1 r.2) : ps_at z 3 0 [(0, .ref (z_ad z 45)), (1, .int a1), (2, .int a2)] [] σ := by
  unfold fX5_partings at h
  refine ps_aload_n C (pc := 0) dX5_partings_0 0 rfl ?_
  refine ps_iconst C (pc := 1) (v := 0) dX5_partings_1 (by decide) ?_
  refine pp_45_0 C (pc := 2) tw_796 dX5_partings_2 h (fun σ1 h => ?_)
  refine ps_aload_n C (pc := 5) dX5_partings_5 0 rfl ?_
  refine ps_iload_n C (pc := 6) dX5_partings_6 1 rfl ?_
  obtain ⟨q2, hq2, h⟩ := ps_bd h
  refine ps_callVI C Z (pc := 7) (As := [.int a1]) (k0 := 45) (mX5_isSet  hq2) (Cn := "PartSumsModel") rfl tw_966 tw_968 tw_40 tw_70 tw_969 hdX5_isSet rfl rfl ⟨by decide, by decide⟩ (by decide) ps_o45 rfl rfl (Nat.le_of_ble_eq_true rfl) dX5_partings_7 rfl ?_
  refine ps_if_eq C (pc := 10) 23 dX5_partings_10 (by decide) (fun hc => ?_) (fun hc => ?_)
  · have h := ps_ift hc h
    refine ps_iconst C (pc := 23) (v := -1) dX5_partings_23 (by decide) ?_
    obtain rfl := Option.some.inj h
    exact k _ _ dX5_partings_24
  · have h := ps_iff hc h
    refine ps_iload_n C (pc := 13) dX5_partings_13 2 rfl ?_
    refine ps_iconst C (pc := 14) (v := 0) dX5_partings_14 (by decide) ?_
    refine ps_bipush C (pc := 15) (v := 8) dX5_partings_15 (by decide) ?_
    obtain ⟨q3, hq3, h⟩ := ps_bd h
    refine ps_callSI C Z (pc := 17) (As := [.int a2, .int (0 : Int32), .int (8 : Int32)]) (mX5_isIn  hq3) tw_904 tw_905 tw_70 tw_906 hdX5_isIn rfl rfl ⟨by decide, by decide⟩ rfl (Nat.le_of_ble_eq_true rfl) dX5_partings_17 rfl ?_
    refine ps_if_ne C (pc := 20) 25 dX5_partings_20 (by decide) (fun hc => ?_) (fun hc => ?_)
    · have h := ps_iff hc h
      refine ps_aload_n C (pc := 25) dX5_partings_25 0 rfl ?_
      obtain ⟨q4, hq4, h⟩ := ps_bd h
      refine ps_callVV C Z (pc := 26) (As := []) (k0 := 45) (mX5_laysWays  hq4) (Cn := "PartSumsModel") rfl tw_1090 tw_1092 tw_55 tw_70 tw_1093 hdX5_laysWays rfl rfl ⟨by decide, by decide⟩ (by decide) ps_o45 rfl rfl (Nat.le_of_ble_eq_true rfl) dX5_partings_26 rfl ?_
      refine ps_aload_n C (pc := 29) dX5_partings_29 0 rfl ?_
      refine pg_45_18 C (pc := 30) tw_814 dX5_partings_30 ?_
      refine ps_bipush C (pc := 33) (v := 9) dX5_partings_33 (by decide) ?_
      refine ps_iload_n C (pc := 35) dX5_partings_35 1 rfl ?_
      refine ps_imul C (pc := 36) dX5_partings_36 ?_
      refine ps_iload_n C (pc := 37) dX5_partings_37 2 rfl ?_
      refine ps_iadd C (pc := 38) dX5_partings_38 ?_
      obtain ⟨hi5, h⟩ := ps_ck_s h
      refine ps_iald C (pc := 39) 54 rfl rfl hi5 dX5_partings_39 ?_
      obtain rfl := Option.some.inj h
      exact k _ _ dX5_partings_40
    · have h := ps_ift hc h
      refine ps_iconst C (pc := 23) (v := -1) dX5_partings_23 (by decide) ?_
      obtain rfl := Option.some.inj h
      exact k _ _ dX5_partings_24
def rmX5_partings : Room := { frames := 3, cells := 0, slots := 0, locals := 63 }
theorem mX5_partings {l : Launch} {E : ps_E} {σ : ps_S} {a1 : Int32} {a2 : Int32} {r : Int32 × ps_S}  (h : fX5_partings a1 a2 σ = some r) : ps_MI l yX5_partings (ps_wm yX5_partings cX5_partings 3 (some .int)) rmX5_partings [.ref (e_ad E 45), .int a1, .int a2] E σ r.1 r.2 :=
  ps_metI yX5_partings rmX5_partings 3 (own := "PartSumsModel") r.1 (by decide +kernel) rfl (Nat.le_of_ble_eq_true rfl) rfl (fun z e1 e2 e3 e4 e5 C k => by
    subst e5
    exact tX5_partings C (ps_Zof e1 e3 e4)  h k)
theorem hdX5_partings : yX5_partings.cls ≠ "java/lang/invoke/MethodHandle" ∧ yX5_partings.cls ≠ "java/lang/invoke/VarHandle" ∧ (parseMethodDescriptor yX5_partings.desc).map (fun d => d.parameters.length) = some 2 := by decide +kernel
