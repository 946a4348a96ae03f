def pX3_slopesOfChoices_S9 (z : ps_X) (a1 : Int32) (s : Int32 × ps_S) : Prop := ps_at z 3 9 [(0, .ref (z_ad z 39)), (1, .int a1), (2, .int s.1)] [] s.2
def qX3_slopesOfChoices_S9 (z : ps_X) (a1 : Int32) (x : (ps_S)) : Prop := match x with | y => ps_at z 3 42 [] [] y
def fX3_slopesOfChoices_S9 (a1 : Int32) (a2 : Int32) (σ : ps_S) : Option ((Int32 × ps_S) ⊕ ((ps_S))) :=
  (if (8 : Int32) < a2 then some (.inr σ)
  else (ps_ck (a2 - (1 : Int32)) 9 ((ps_ck a2 9 ((ps_let (ps_ul σ 41 (Int32.toNatClampNeg a2) ((σ.2 41 (Int32.toNatClampNeg (a2 - (1 : Int32)))) * (Int32.toInt64 ((a1 - a2) + (1 : Int32))))) fun σ5 =>
  (ps_let (a2 + (1 : Int32)) fun x6 =>
  some (.inl (x6, σ5)))))))))
set_option maxHeartbeats 4000000 in
set_option maxRecDepth 100000 in
theorem tX3_slopesOfChoices_S9 {z : ps_X} (C : ps_C z cX3_slopesOfChoices 3 "PartSums$Series") (Z : ps_Z z 0 0) (a1 : Int32)  (s : Int32 × ps_S) (r : (Int32 × ps_S) ⊕ ((ps_S))) (h : fX3_slopesOfChoices_S9 a1 s.1 s.2 = some r) (k : ps_k (pX3_slopesOfChoices_S9 z a1) (qX3_slopesOfChoices_S9 z a1) r) : pX3_slopesOfChoices_S9 z a1 s := by
  obtain ⟨a2, σ⟩ := s
  unfold fX3_slopesOfChoices_S9 at h
  unfold pX3_slopesOfChoices_S9
  refine ps_iload_n C (pc := 9) dX3_slopesOfChoices_9 2 rfl ?_
  refine ps_bipush C (pc := 10) (v := 8) dX3_slopesOfChoices_10 (by decide) ?_
  refine ps_icmp_gt C (pc := 12) 42 dX3_slopesOfChoices_12 (by decide) (fun hc => ?_) (fun hc => ?_)
  · have h := ps_ift hc h
    obtain rfl := Option.some.inj h
    exact ps_sub [] rfl k
  · have h := ps_iff hc h
    refine ps_aload_n C (pc := 15) dX3_slopesOfChoices_15 0 rfl ?_
    refine pg_39_1 C (pc := 16) tw_200 dX3_slopesOfChoices_16 ?_
    refine ps_iload_n C (pc := 19) dX3_slopesOfChoices_19 2 rfl ?_
    refine ps_aload_n C (pc := 20) dX3_slopesOfChoices_20 0 rfl ?_
    refine pg_39_1 C (pc := 21) tw_200 dX3_slopesOfChoices_21 ?_
    refine ps_iload_n C (pc := 24) dX3_slopesOfChoices_24 2 rfl ?_
    refine ps_iconst C (pc := 25) (v := 1) dX3_slopesOfChoices_25 (by decide) ?_
    refine ps_isub C (pc := 26) dX3_slopesOfChoices_26 ?_
    obtain ⟨hi3, h⟩ := ps_ck_s h
    refine ps_lald C (pc := 27) 41 rfl rfl hi3 dX3_slopesOfChoices_27 ?_
    refine ps_iload_n C (pc := 28) dX3_slopesOfChoices_28 1 rfl ?_
    refine ps_iload_n C (pc := 29) dX3_slopesOfChoices_29 2 rfl ?_
    refine ps_isub C (pc := 30) dX3_slopesOfChoices_30 ?_
    refine ps_iconst C (pc := 31) (v := 1) dX3_slopesOfChoices_31 (by decide) ?_
    refine ps_iadd C (pc := 32) dX3_slopesOfChoices_32 ?_
    refine ps_i2l C (pc := 33) dX3_slopesOfChoices_33 ?_
    refine ps_lmul C (pc := 34) dX3_slopesOfChoices_34 ?_
    obtain ⟨hi4, h⟩ := ps_ck_s h
    refine ps_lastL C (pc := 35) 41 rfl rfl hi4 dX3_slopesOfChoices_35 h (fun σ5 h => ?_)
    refine ps_iincL C (pc := 36) (zz := 1) (lw := fun x6 => [(2, .int x6), (0, .ref (z_ad z 39)), (1, .int a1)]) dX3_slopesOfChoices_36 2 rfl (by decide) (by decide) (fun _ => rfl) h (fun x6 h => ?_)
    refine ps_goto C (pc := 39) 9 dX3_slopesOfChoices_39 (by decide) ?_
    obtain rfl := Option.some.inj h
    exact ps_sub [1, 2, 0] rfl k
def fX3_slopesOfChoices (a1 : Int32) (σ : ps_S) : Option (ps_S) :=
  (ps_ck (0 : Int32) 9 ((ps_let (ps_ul σ 41 (Int32.toNatClampNeg (0 : Int32)) (1 : Int64)) fun σ2 =>
  ((ps_lp (fun s => fX3_slopesOfChoices_S9 a1 s.1 s.2) 100000 ((1 : Int32), σ2)).bind fun e7 =>
  some e7))))
set_option maxHeartbeats 4000000 in
set_option maxRecDepth 100000 in
theorem tX3_slopesOfChoices {z : ps_X} (C : ps_C z cX3_slopesOfChoices 3 "PartSums$Series") (Z : ps_Z z 0 0) {a1 : Int32} {σ : ps_S}  {r : ps_S} (h : fX3_slopesOfChoices a1 σ = some r) (k : ps_KV z 3 cX3_slopesOfChoices r) : ps_at z 3 0 [(0, .ref (z_ad z 39)), (1, .int a1)] [] σ := by
  unfold fX3_slopesOfChoices at h
  refine ps_aload_n C (pc := 0) dX3_slopesOfChoices_0 0 rfl ?_
  refine pg_39_1 C (pc := 1) tw_200 dX3_slopesOfChoices_1 ?_
  refine ps_iconst C (pc := 4) (v := 0) dX3_slopesOfChoices_4 (by decide) ?_
  refine ps_lconst C (pc := 5) (v := 1) dX3_slopesOfChoices_5 (by decide) ?_
  obtain ⟨hi1, h⟩ := ps_ck_s h
  refine ps_lastL C (pc := 6) 41 rfl rfl hi1 dX3_slopesOfChoices_6 h (fun σ2 h => ?_)
  refine ps_iconst C (pc := 7) (v := 1) dX3_slopesOfChoices_7 (by decide) ?_
  refine ps_istore_n C (pc := 8) (lv' := [(2, .int (1 : Int32)), (0, .ref (z_ad z 39)), (1, .int a1)]) dX3_slopesOfChoices_8 (by decide) rfl ?_
  obtain ⟨e7, he7, h⟩ := ps_bd h
  refine ps_sub [1, 2, 0] rfl ?_
  refine ps_loop (P := pX3_slopesOfChoices_S9 z a1) (K := qX3_slopesOfChoices_S9 z a1) (fun s r h k => tX3_slopesOfChoices_S9 C Z a1  s r h k) _ _ _ he7 ?_
  unfold qX3_slopesOfChoices_S9
  obtain rfl := Option.some.inj h
  exact k _ _ dX3_slopesOfChoices_42
def rmX3_slopesOfChoices : Room := { frames := 0, cells := 0, slots := 0, locals := 0 }
theorem mX3_slopesOfChoices {l : Launch} {E : ps_E} {σ : ps_S} {a1 : Int32} {r : ps_S}  (h : fX3_slopesOfChoices a1 σ = some r) : ps_MV l yX3_slopesOfChoices (ps_wm yX3_slopesOfChoices cX3_slopesOfChoices 3 none) rmX3_slopesOfChoices [.ref (e_ad E 39), .int a1] E σ r :=
  ps_metV yX3_slopesOfChoices rmX3_slopesOfChoices 3 (own := "PartSums$Series")  (by decide +kernel) rfl (Nat.le_of_ble_eq_true rfl) rfl (fun z e1 e2 e3 e4 e5 C k => by
    subst e5
    exact tX3_slopesOfChoices C (ps_Zof e1 e3 e4)  h k)
theorem hdX3_slopesOfChoices : yX3_slopesOfChoices.cls ≠ "java/lang/invoke/MethodHandle" ∧ yX3_slopesOfChoices.cls ≠ "java/lang/invoke/VarHandle" ∧ (parseMethodDescriptor yX3_slopesOfChoices.desc).map (fun d => d.parameters.length) = some 1 := by decide +kernel
def pX3_slopesOfPower_S7 (z : ps_X) (a1 : Int32) (a2 : Int32) (s : Int32 × ps_S) : Prop := ps_at z 4 7 [(0, .ref (z_ad z 39)), (1, .int a1), (2, .int a2), (3, .int s.1)] [] s.2
def qX3_slopesOfPower_S7 (z : ps_X) (a1 : Int32) (a2 : Int32) (x : (ps_S)) : Prop := match x with | y => ps_at z 4 57 [] [] y
def fX3_slopesOfPower_J50 (a1 : Int32) (a2 : Int32) (a3 : Int32) (u0 : Int64) (u1 : Int32) (σ : ps_S) : Option ((Int32 × ps_S) ⊕ ((ps_S))) :=
  (ps_ck u1 9 ((ps_let (ps_ul σ 41 (Int32.toNatClampNeg u1) u0) fun σ3 =>
  (ps_let (a3 + (1 : Int32)) fun x4 =>
  some (.inl (x4, σ3))))))
set_option maxHeartbeats 4000000 in
set_option maxRecDepth 100000 in
theorem tX3_slopesOfPower_J50 {z : ps_X} (C : ps_C z cX3_slopesOfPower 4 "PartSums$Series") (Z : ps_Z z 1 26) {a1 : Int32} {a2 : Int32} {a3 : Int32} {u0 : Int64} {u1 : Int32} {σ : ps_S}  {r : (Int32 × ps_S) ⊕ ((ps_S))} (h : fX3_slopesOfPower_J50 a1 a2 a3 u0 u1 σ = some r) (k : ps_k (pX3_slopesOfPower_S7 z a1 a2) (qX3_slopesOfPower_S7 z a1 a2) r) : ps_at z 4 50 [(0, .ref (z_ad z 39)), (1, .int a1), (2, .int a2), (3, .int a3)] [.long u0, .int u1, .ref (z_ad z 41)] σ := by
  unfold fX3_slopesOfPower_J50 at h
  obtain ⟨hi2, h⟩ := ps_ck_s h
  refine ps_lastL C (pc := 50) 41 rfl rfl hi2 dX3_slopesOfPower_50 h (fun σ3 h => ?_)
  refine ps_iincL C (pc := 51) (zz := 1) (lw := fun x4 => [(3, .int x4), (0, .ref (z_ad z 39)), (1, .int a1), (2, .int a2)]) dX3_slopesOfPower_51 3 rfl (by decide) (by decide) (fun _ => rfl) h (fun x4 h => ?_)
  refine ps_goto C (pc := 54) 7 dX3_slopesOfPower_54 (by decide) ?_
  obtain rfl := Option.some.inj h
  exact ps_sub [1, 2, 3, 0] rfl k
def fX3_slopesOfPower_S7 (a1 : Int32) (a2 : Int32) (a3 : Int32) (σ : ps_S) : Option ((Int32 × ps_S) ⊕ ((ps_S))) :=
  (if (8 : Int32) < a3 then some (.inr σ)
  else (if a2 < a3 then fX3_slopesOfPower_J50 a1 a2 a3 (0 : Int64) a3 σ
  else (ps_ck a3 9 (((fX4_raise a1 (a2 - a3)).bind fun q6 =>
  fX3_slopesOfPower_J50 a1 a2 a3 ((((σ.2 41 (Int32.toNatClampNeg a3)) - (σ.2 41 (Int32.toNatClampNeg a3)) / (1000003 : Int64) * (1000003 : Int64)) * (Int32.toInt64 q6)) - (((σ.2 41 (Int32.toNatClampNeg a3)) - (σ.2 41 (Int32.toNatClampNeg a3)) / (1000003 : Int64) * (1000003 : Int64)) * (Int32.toInt64 q6)) / (1000003 : Int64) * (1000003 : Int64)) a3 σ)))))
set_option maxHeartbeats 4000000 in
set_option maxRecDepth 100000 in
theorem tX3_slopesOfPower_S7 {z : ps_X} (C : ps_C z cX3_slopesOfPower 4 "PartSums$Series") (Z : ps_Z z 1 26) (a1 : Int32) (a2 : Int32)  (s : Int32 × ps_S) (r : (Int32 × ps_S) ⊕ ((ps_S))) (h : fX3_slopesOfPower_S7 a1 a2 s.1 s.2 = some r) (k : ps_k (pX3_slopesOfPower_S7 z a1 a2) (qX3_slopesOfPower_S7 z a1 a2) r) : pX3_slopesOfPower_S7 z a1 a2 s := by
  obtain ⟨a3, σ⟩ := s
  unfold fX3_slopesOfPower_S7 at h
  unfold pX3_slopesOfPower_S7
  refine ps_iload_n C (pc := 7) dX3_slopesOfPower_7 3 rfl ?_
  refine ps_bipush C (pc := 8) (v := 8) dX3_slopesOfPower_8 (by decide) ?_
  refine ps_icmp_gt C (pc := 10) 57 dX3_slopesOfPower_10 (by decide) (fun hc => ?_) (fun hc => ?_)
  · have h := ps_ift hc h
    obtain rfl := Option.some.inj h
    exact ps_sub [] rfl k
  · have h := ps_iff hc h
    refine ps_aload_n C (pc := 13) dX3_slopesOfPower_13 0 rfl ?_
    refine pg_39_1 C (pc := 14) tw_200 dX3_slopesOfPower_14 ?_
    refine ps_iload_n C (pc := 17) dX3_slopesOfPower_17 3 rfl ?_
    refine ps_iload_n C (pc := 18) dX3_slopesOfPower_18 3 rfl ?_
    refine ps_iload_n C (pc := 19) dX3_slopesOfPower_19 2 rfl ?_
    refine ps_icmp_gt C (pc := 20) 49 dX3_slopesOfPower_20 (by decide) (fun hc => ?_) (fun hc => ?_)
    · have h := ps_ift hc h
      refine ps_lconst C (pc := 49) (v := 0) dX3_slopesOfPower_49 (by decide) ?_
      exact ps_sub [0, 1, 2, 3] rfl (tX3_slopesOfPower_J50 C Z  h k)
    · have h := ps_iff hc h
      refine ps_aload_n C (pc := 23) dX3_slopesOfPower_23 0 rfl ?_
      refine pg_39_1 C (pc := 24) tw_200 dX3_slopesOfPower_24 ?_
      refine ps_iload_n C (pc := 27) dX3_slopesOfPower_27 3 rfl ?_
      obtain ⟨hi5, h⟩ := ps_ck_s h
      refine ps_lald C (pc := 28) 41 rfl rfl hi5 dX3_slopesOfPower_28 ?_
      refine ps_ldc2 C (pc := 29) tw_524 dX3_slopesOfPower_29 ?_
      refine ps_lrem C (pc := 32) dX3_slopesOfPower_32 (by decide) ?_
      refine ps_iload_n C (pc := 33) dX3_slopesOfPower_33 1 rfl ?_
      refine ps_iload_n C (pc := 34) dX3_slopesOfPower_34 2 rfl ?_
      refine ps_iload_n C (pc := 35) dX3_slopesOfPower_35 3 rfl ?_
      refine ps_isub C (pc := 36) dX3_slopesOfPower_36 ?_
      obtain ⟨q6, hq6, h⟩ := ps_bd h
      refine ps_callNI C Z (pc := 37) (As := [.int a1, .int (a2 - a3)]) (mX4_raise  hq6) (host := "PartSums") (by simp [ps_nt]) tw_526 tw_65 tw_527 hdX4_raise rfl rfl ⟨by decide, by decide⟩ rfl (Nat.le_of_ble_eq_true rfl) dX3_slopesOfPower_37 rfl ?_
      refine ps_i2l C (pc := 40) dX3_slopesOfPower_40 ?_
      refine ps_lmul C (pc := 41) dX3_slopesOfPower_41 ?_
      refine ps_ldc2 C (pc := 42) tw_524 dX3_slopesOfPower_42 ?_
      refine ps_lrem C (pc := 45) dX3_slopesOfPower_45 (by decide) ?_
      refine ps_goto C (pc := 46) 50 dX3_slopesOfPower_46 (by decide) ?_
      exact ps_sub [0, 1, 2, 3] rfl (tX3_slopesOfPower_J50 C Z  h k)
def fX3_slopesOfPower (a1 : Int32) (a2 : Int32) (σ : ps_S) : Option (ps_S) :=
  ((fX3_slopesOfChoices a2 σ).bind fun q1 =>
  ((ps_lp (fun s => fX3_slopesOfPower_S7 a1 a2 s.1 s.2) 100000 ((0 : Int32), q1)).bind fun e7 =>
  some e7))
set_option maxHeartbeats 4000000 in
set_option maxRecDepth 100000 in
theorem tX3_slopesOfPower {z : ps_X} (C : ps_C z cX3_slopesOfPower 4 "PartSums$Series") (Z : ps_Z z 1 26) {a1 : Int32} {a2 : Int32} {σ : ps_S}  {r : ps_S} (h : fX3_slopesOfPower a1 a2 σ = some r) (k : ps_KV z 4 cX3_slopesOfPower r) : ps_at z 4 0 [(0, .ref (z_ad z 39)), (1, .int a1), (2, .int a2)] [] σ := by
  unfold fX3_slopesOfPower at h
  refine ps_aload_n C (pc := 0) dX3_slopesOfPower_0 0 rfl ?_
  refine ps_iload_n C (pc := 1) dX3_slopesOfPower_1 2 rfl ?_
  obtain ⟨q1, hq1, h⟩ := ps_bd h
  refine ps_callVV C Z (pc := 2) (As := [.int a2]) (k0 := 39) (mX3_slopesOfChoices  hq1) (Cn := "PartSums$Series") rfl tw_520 tw_521 tw_522 tw_69 tw_523 hdX3_slopesOfChoices rfl rfl ⟨by decide, by decide⟩ (by decide) ps_o39 rfl rfl (Nat.le_of_ble_eq_true rfl) dX3_slopesOfPower_2 rfl ?_
  refine ps_iconst C (pc := 5) (v := 0) dX3_slopesOfPower_5 (by decide) ?_
  refine ps_istore_n C (pc := 6) (lv' := [(3, .int (0 : Int32)), (0, .ref (z_ad z 39)), (1, .int a1), (2, .int a2)]) dX3_slopesOfPower_6 (by decide) rfl ?_
  obtain ⟨e7, he7, h⟩ := ps_bd h
  refine ps_sub [1, 2, 3, 0] rfl ?_
  refine ps_loop (P := pX3_slopesOfPower_S7 z a1 a2) (K := qX3_slopesOfPower_S7 z a1 a2) (fun s r h k => tX3_slopesOfPower_S7 C Z a1 a2  s r h k) _ _ _ he7 ?_
  unfold qX3_slopesOfPower_S7
  obtain rfl := Option.some.inj h
  exact k _ _ dX3_slopesOfPower_57
def rmX3_slopesOfPower : Room := { frames := 1, cells := 0, slots := 0, locals := 26 }
theorem mX3_slopesOfPower {l : Launch} {E : ps_E} {σ : ps_S} {a1 : Int32} {a2 : Int32} {r : ps_S}  (h : fX3_slopesOfPower a1 a2 σ = some r) : ps_MV l yX3_slopesOfPower (ps_wm yX3_slopesOfPower cX3_slopesOfPower 4 none) rmX3_slopesOfPower [.ref (e_ad E 39), .int a1, .int a2] E σ r :=
  ps_metV yX3_slopesOfPower rmX3_slopesOfPower 4 (own := "PartSums$Series")  (by decide +kernel) rfl (Nat.le_of_ble_eq_true rfl) rfl (fun z e1 e2 e3 e4 e5 C k => by
    subst e5
    exact tX3_slopesOfPower C (ps_Zof e1 e3 e4)  h k)
theorem hdX3_slopesOfPower : yX3_slopesOfPower.cls ≠ "java/lang/invoke/MethodHandle" ∧ yX3_slopesOfPower.cls ≠ "java/lang/invoke/VarHandle" ∧ (parseMethodDescriptor yX3_slopesOfPower.desc).map (fun d => d.parameters.length) = some 2 := by decide +kernel
def pX3_slopesOfInverse_S18 (z : ps_X) (a2 : Int64) (s : Int32 × ps_S) : Prop := ps_at z 5 18 [(0, .ref (z_ad z 39)), (2, .long a2), (4, .int s.1)] [] s.2
def qX3_slopesOfInverse_S18 (z : ps_X) (a2 : Int64) (x : (ps_S)) : Prop := match x with | y => ps_at z 5 62 [] [] y
def fX3_slopesOfInverse_S18 (a2 : Int64) (a4 : Int32) (σ : ps_S) : Option ((Int32 × ps_S) ⊕ ((ps_S))) :=
  (if (8 : Int32) < a4 then some (.inr σ)
  else (ps_ck (a4 - (1 : Int32)) 9 (((fX4_reduce ((((-(σ.2 41 (Int32.toNatClampNeg (a4 - (1 : Int32))))) * (Int32.toInt64 a4)) - ((-(σ.2 41 (Int32.toNatClampNeg (a4 - (1 : Int32))))) * (Int32.toInt64 a4)) / (1000003 : Int64) * (1000003 : Int64)) * a2)).bind fun q6 =>
  (ps_ck a4 9 ((ps_let (ps_ul σ 41 (Int32.toNatClampNeg a4) (Int32.toInt64 q6)) fun σ8 =>
  (ps_let (a4 + (1 : Int32)) fun x9 =>
  some (.inl (x9, σ8))))))))))
set_option maxHeartbeats 4000000 in
set_option maxRecDepth 100000 in
theorem tX3_slopesOfInverse_S18 {z : ps_X} (C : ps_C z cX3_slopesOfInverse 5 "PartSums$Series") (Z : ps_Z z 1 26) (a2 : Int64)  (s : Int32 × ps_S) (r : (Int32 × ps_S) ⊕ ((ps_S))) (h : fX3_slopesOfInverse_S18 a2 s.1 s.2 = some r) (k : ps_k (pX3_slopesOfInverse_S18 z a2) (qX3_slopesOfInverse_S18 z a2) r) : pX3_slopesOfInverse_S18 z a2 s := by
  obtain ⟨a4, σ⟩ := s
  unfold fX3_slopesOfInverse_S18 at h
  unfold pX3_slopesOfInverse_S18
  refine ps_iload C (pc := 18) dX3_slopesOfInverse_18 2 rfl ?_
  refine ps_bipush C (pc := 20) (v := 8) dX3_slopesOfInverse_20 (by decide) ?_
  refine ps_icmp_gt C (pc := 22) 62 dX3_slopesOfInverse_22 (by decide) (fun hc => ?_) (fun hc => ?_)
  · have h := ps_ift hc h
    obtain rfl := Option.some.inj h
    exact ps_sub [] rfl k
  · have h := ps_iff hc h
    refine ps_aload_n C (pc := 25) dX3_slopesOfInverse_25 0 rfl ?_
    refine pg_39_1 C (pc := 26) tw_200 dX3_slopesOfInverse_26 ?_
    refine ps_iload C (pc := 29) dX3_slopesOfInverse_29 2 rfl ?_
    refine ps_aload_n C (pc := 31) dX3_slopesOfInverse_31 0 rfl ?_
    refine pg_39_1 C (pc := 32) tw_200 dX3_slopesOfInverse_32 ?_
    refine ps_iload C (pc := 35) dX3_slopesOfInverse_35 2 rfl ?_
    refine ps_iconst C (pc := 37) (v := 1) dX3_slopesOfInverse_37 (by decide) ?_
    refine ps_isub C (pc := 38) dX3_slopesOfInverse_38 ?_
    obtain ⟨hi5, h⟩ := ps_ck_s h
    refine ps_lald C (pc := 39) 41 rfl rfl hi5 dX3_slopesOfInverse_39 ?_
    refine ps_lneg C (pc := 40) dX3_slopesOfInverse_40 ?_
    refine ps_iload C (pc := 41) dX3_slopesOfInverse_41 2 rfl ?_
    refine ps_i2l C (pc := 43) dX3_slopesOfInverse_43 ?_
    refine ps_lmul C (pc := 44) dX3_slopesOfInverse_44 ?_
    refine ps_ldc2 C (pc := 45) tw_524 dX3_slopesOfInverse_45 ?_
    refine ps_lrem C (pc := 48) dX3_slopesOfInverse_48 (by decide) ?_
    refine ps_lload_n C (pc := 49) dX3_slopesOfInverse_49 1 rfl ?_
    refine ps_lmul C (pc := 50) dX3_slopesOfInverse_50 ?_
    obtain ⟨q6, hq6, h⟩ := ps_bd h
    refine ps_callNI C Z (pc := 51) (As := [.long ((((-(σ.2 41 (Int32.toNatClampNeg (a4 - (1 : Int32))))) * (Int32.toInt64 a4)) - ((-(σ.2 41 (Int32.toNatClampNeg (a4 - (1 : Int32))))) * (Int32.toInt64 a4)) / (1000003 : Int64) * (1000003 : Int64)) * a2)]) (mX4_reduce  hq6) (host := "PartSums") (by simp [ps_nt]) tw_447 tw_65 tw_448 hdX4_reduce rfl rfl ⟨by decide, by decide⟩ rfl (Nat.le_of_ble_eq_true rfl) dX3_slopesOfInverse_51 rfl ?_
    refine ps_i2l C (pc := 54) dX3_slopesOfInverse_54 ?_
    obtain ⟨hi7, h⟩ := ps_ck_s h
    refine ps_lastL C (pc := 55) 41 rfl rfl hi7 dX3_slopesOfInverse_55 h (fun σ8 h => ?_)
    refine ps_iincL C (pc := 56) (zz := 1) (lw := fun x9 => [(4, .int x9), (0, .ref (z_ad z 39)), (2, .long a2)]) dX3_slopesOfInverse_56 2 rfl (by decide) (by decide) (fun _ => rfl) h (fun x9 h => ?_)
    refine ps_goto C (pc := 59) 18 dX3_slopesOfInverse_59 (by decide) ?_
    obtain rfl := Option.some.inj h
    exact ps_sub [1, 2, 0] rfl k
def fX3_slopesOfInverse (a1 : Int32) (σ : ps_S) : Option (ps_S) :=
  ((fX4_raise a1 (1000001 : Int32)).bind fun q1 =>
  (ps_let (Int32.toInt64 q1) fun x2 =>
  (ps_ck (0 : Int32) 9 ((ps_let (ps_ul σ 41 (Int32.toNatClampNeg (0 : Int32)) x2) fun σ4 =>
  ((ps_lp (fun s => fX3_slopesOfInverse_S18 x2 s.1 s.2) 100000 ((1 : Int32), σ4)).bind fun e10 =>
  some e10))))))
set_option maxHeartbeats 4000000 in
set_option maxRecDepth 100000 in
theorem tX3_slopesOfInverse {z : ps_X} (C : ps_C z cX3_slopesOfInverse 5 "PartSums$Series") (Z : ps_Z z 1 26) {a1 : Int32} {σ : ps_S}  {r : ps_S} (h : fX3_slopesOfInverse a1 σ = some r) (k : ps_KV z 5 cX3_slopesOfInverse r) : ps_at z 5 0 [(0, .ref (z_ad z 39)), (1, .int a1)] [] σ := by
  unfold fX3_slopesOfInverse at h
  refine ps_iload_n C (pc := 0) dX3_slopesOfInverse_0 1 rfl ?_
  refine ps_ldc C (pc := 1) tw_549 dX3_slopesOfInverse_1 ?_
  obtain ⟨q1, hq1, h⟩ := ps_bd h
  refine ps_callNI C Z (pc := 3) (As := [.int a1, .int (1000001 : Int32)]) (mX4_raise  hq1) (host := "PartSums") (by simp [ps_nt]) tw_526 tw_65 tw_527 hdX4_raise rfl rfl ⟨by decide, by decide⟩ rfl (Nat.le_of_ble_eq_true rfl) dX3_slopesOfInverse_3 rfl ?_
  refine ps_i2l C (pc := 6) dX3_slopesOfInverse_6 ?_
  refine ps_lstoreL_n C (pc := 7) (lw := fun x2 => [(2, .long x2), (0, .ref (z_ad z 39)), (1, .int a1)]) dX3_slopesOfInverse_7 (by decide) (fun _ => rfl) h (fun x2 h => ?_)
  refine ps_aload_n C (pc := 8) dX3_slopesOfInverse_8 1 rfl ?_
  refine pg_39_1 C (pc := 9) tw_200 dX3_slopesOfInverse_9 ?_
  refine ps_iconst C (pc := 12) (v := 0) dX3_slopesOfInverse_12 (by decide) ?_
  refine ps_lload_n C (pc := 13) dX3_slopesOfInverse_13 0 rfl ?_
  obtain ⟨hi3, h⟩ := ps_ck_s h
  refine ps_lastL C (pc := 14) 41 rfl rfl hi3 dX3_slopesOfInverse_14 h (fun σ4 h => ?_)
  refine ps_iconst C (pc := 15) (v := 1) dX3_slopesOfInverse_15 (by decide) ?_
  refine ps_istore C (pc := 16) (lv' := [(4, .int (1 : Int32)), (2, .long x2), (0, .ref (z_ad z 39)), (1, .int a1)]) dX3_slopesOfInverse_16 (by decide) rfl ?_
  obtain ⟨e10, he10, h⟩ := ps_bd h
  refine ps_sub [2, 1, 0] rfl ?_
  refine ps_loop (P := pX3_slopesOfInverse_S18 z x2) (K := qX3_slopesOfInverse_S18 z x2) (fun s r h k => tX3_slopesOfInverse_S18 C Z x2  s r h k) _ _ _ he10 ?_
  unfold qX3_slopesOfInverse_S18
  obtain rfl := Option.some.inj h
  exact k _ _ dX3_slopesOfInverse_62
def rmX3_slopesOfInverse : Room := { frames := 1, cells := 0, slots := 0, locals := 26 }
theorem mX3_slopesOfInverse {l : Launch} {E : ps_E} {σ : ps_S} {a1 : Int32} {r : ps_S}  (h : fX3_slopesOfInverse a1 σ = some r) : ps_MV l yX3_slopesOfInverse (ps_wm yX3_slopesOfInverse cX3_slopesOfInverse 5 none) rmX3_slopesOfInverse [.ref (e_ad E 39), .int a1] E σ r :=
  ps_metV yX3_slopesOfInverse rmX3_slopesOfInverse 5 (own := "PartSums$Series")  (by decide +kernel) rfl (Nat.le_of_ble_eq_true rfl) rfl (fun z e1 e2 e3 e4 e5 C k => by
    subst e5
    exact tX3_slopesOfInverse C (ps_Zof e1 e3 e4)  h k)
theorem hdX3_slopesOfInverse : yX3_slopesOfInverse.cls ≠ "java/lang/invoke/MethodHandle" ∧ yX3_slopesOfInverse.cls ≠ "java/lang/invoke/VarHandle" ∧ (parseMethodDescriptor yX3_slopesOfInverse.desc).map (fun d => d.parameters.length) = some 1 := by decide +kernel
def pX3_slopesOfAllWays_S2 (z : ps_X)  (s : Int32 × ps_S) : Prop := ps_at z 2 2 [(0, .ref (z_ad z 39)), (1, .int s.1)] [] s.2
def qX3_slopesOfAllWays_S2 (z : ps_X)  (x : (ps_S)) : Prop := match x with | y => ps_at z 2 21 [] [] y
def fX3_slopesOfAllWays_S2  (a1 : Int32) (σ : ps_S) : Option ((Int32 × ps_S) ⊕ ((ps_S))) :=
  (if (8 : Int32) < a1 then some (.inr σ)
  else (ps_ck a1 9 ((ps_let (ps_ul σ 41 (Int32.toNatClampNeg a1) (1 : Int64)) fun σ2 =>
  (ps_let (a1 + (1 : Int32)) fun x3 =>
  some (.inl (x3, σ2)))))))
set_option maxHeartbeats 4000000 in
set_option maxRecDepth 100000 in
theorem tX3_slopesOfAllWays_S2 {z : ps_X} (C : ps_C z cX3_slopesOfAllWays 2 "PartSums$Series") (Z : ps_Z z 0 0)   (s : Int32 × ps_S) (r : (Int32 × ps_S) ⊕ ((ps_S))) (h : fX3_slopesOfAllWays_S2  s.1 s.2 = some r) (k : ps_k (pX3_slopesOfAllWays_S2 z ) (qX3_slopesOfAllWays_S2 z ) r) : pX3_slopesOfAllWays_S2 z  s := by
  obtain ⟨a1, σ⟩ := s
  unfold fX3_slopesOfAllWays_S2 at h
  unfold pX3_slopesOfAllWays_S2
  refine ps_iload_n C (pc := 2) dX3_slopesOfAllWays_2 1 rfl ?_
  refine ps_bipush C (pc := 3) (v := 8) dX3_slopesOfAllWays_3 (by decide) ?_
  refine ps_icmp_gt C (pc := 5) 21 dX3_slopesOfAllWays_5 (by decide) (fun hc => ?_) (fun hc => ?_)
  · have h := ps_ift hc h
    obtain rfl := Option.some.inj h
    exact ps_sub [] rfl k
  · have h := ps_iff hc h
    refine ps_aload_n C (pc := 8) dX3_slopesOfAllWays_8 0 rfl ?_
    refine pg_39_1 C (pc := 9) tw_200 dX3_slopesOfAllWays_9 ?_
    refine ps_iload_n C (pc := 12) dX3_slopesOfAllWays_12 1 rfl ?_
    refine ps_lconst C (pc := 13) (v := 1) dX3_slopesOfAllWays_13 (by decide) ?_
    obtain ⟨hi1, h⟩ := ps_ck_s h
    refine ps_lastL C (pc := 14) 41 rfl rfl hi1 dX3_slopesOfAllWays_14 h (fun σ2 h => ?_)
    refine ps_iincL C (pc := 15) (zz := 1) (lw := fun x3 => [(1, .int x3), (0, .ref (z_ad z 39))]) dX3_slopesOfAllWays_15 1 rfl (by decide) (by decide) (fun _ => rfl) h (fun x3 h => ?_)
    refine ps_goto C (pc := 18) 2 dX3_slopesOfAllWays_18 (by decide) ?_
    obtain rfl := Option.some.inj h
    exact ps_sub [1, 0] rfl k
def fX3_slopesOfAllWays (σ : ps_S) : Option (ps_S) :=
  ((ps_lp (fun s => fX3_slopesOfAllWays_S2  s.1 s.2) 100000 ((0 : Int32), σ)).bind fun e4 =>
  some e4)
set_option maxHeartbeats 4000000 in
set_option maxRecDepth 100000 in
theorem tX3_slopesOfAllWays {z : ps_X} (C : ps_C z cX3_slopesOfAllWays 2 "PartSums$Series") (Z : ps_Z z 0 0) {σ : ps_S}  {r : ps_S} (h : fX3_slopesOfAllWays σ = some r) (k : ps_KV z 2 cX3_slopesOfAllWays r) : ps_at z 2 0 [(0, .ref (z_ad z 39))] [] σ := by
  unfold fX3_slopesOfAllWays at h
  refine ps_iconst C (pc := 0) (v := 0) dX3_slopesOfAllWays_0 (by decide) ?_
  refine ps_istore_n C (pc := 1) (lv' := [(1, .int (0 : Int32)), (0, .ref (z_ad z 39))]) dX3_slopesOfAllWays_1 (by decide) rfl ?_
  obtain ⟨e4, he4, h⟩ := ps_bd h
  refine ps_sub [1, 0] rfl ?_
  refine ps_loop (P := pX3_slopesOfAllWays_S2 z ) (K := qX3_slopesOfAllWays_S2 z ) (fun s r h k => tX3_slopesOfAllWays_S2 C Z   s r h k) _ _ _ he4 ?_
  unfold qX3_slopesOfAllWays_S2
  obtain rfl := Option.some.inj h
  exact k _ _ dX3_slopesOfAllWays_21
def rmX3_slopesOfAllWays : Room := { frames := 0, cells := 0, slots := 0, locals := 0 }
theorem mX3_slopesOfAllWays {l : Launch} {E : ps_E} {σ : ps_S}  {r : ps_S}  (h : fX3_slopesOfAllWays σ = some r) : ps_MV l yX3_slopesOfAllWays (ps_wm yX3_slopesOfAllWays cX3_slopesOfAllWays 2 none) rmX3_slopesOfAllWays [.ref (e_ad E 39)] E σ r :=
  ps_metV yX3_slopesOfAllWays rmX3_slopesOfAllWays 2 (own := "PartSums$Series")  (by decide +kernel) rfl (Nat.le_of_ble_eq_true rfl) rfl (fun z e1 e2 e3 e4 e5 C k => by
    subst e5
    exact tX3_slopesOfAllWays C (ps_Zof e1 e3 e4)  h k)
theorem hdX3_slopesOfAllWays : yX3_slopesOfAllWays.cls ≠ "java/lang/invoke/MethodHandle" ∧ yX3_slopesOfAllWays.cls ≠ "java/lang/invoke/VarHandle" ∧ (parseMethodDescriptor yX3_slopesOfAllWays.desc).map (fun d => d.parameters.length) = some 0 := by decide +kernel
def pX3_slopesOfRoots_S16 (z : ps_X)  (s : Int32 × ps_S) : Prop := ps_at z 2 16 [(0, .ref (z_ad z 39)), (1, .int s.1)] [] s.2
def qX3_slopesOfRoots_S16 (z : ps_X)  (x : (ps_S)) : Prop := match x with | y => ps_at z 2 48 [] [] y
def fX3_slopesOfRoots_S16  (a1 : Int32) (σ : ps_S) : Option ((Int32 × ps_S) ⊕ ((ps_S))) :=
  (if (8 : Int32) < a1 then some (.inr σ)
  else (ps_ck (a1 - (1 : Int32)) 9 ((ps_ck a1 9 ((ps_let (ps_ul σ 41 (Int32.toNatClampNeg a1) ((-(σ.2 41 (Int32.toNatClampNeg (a1 - (1 : Int32))))) * (Int32.toInt64 (a1 - (1 : Int32))))) fun σ7 =>
  (ps_let (a1 + (1 : Int32)) fun x8 =>
  some (.inl (x8, σ7)))))))))
set_option maxHeartbeats 4000000 in
set_option maxRecDepth 100000 in
theorem tX3_slopesOfRoots_S16 {z : ps_X} (C : ps_C z cX3_slopesOfRoots 2 "PartSums$Series") (Z : ps_Z z 0 0)   (s : Int32 × ps_S) (r : (Int32 × ps_S) ⊕ ((ps_S))) (h : fX3_slopesOfRoots_S16  s.1 s.2 = some r) (k : ps_k (pX3_slopesOfRoots_S16 z ) (qX3_slopesOfRoots_S16 z ) r) : pX3_slopesOfRoots_S16 z  s := by
  obtain ⟨a1, σ⟩ := s
  unfold fX3_slopesOfRoots_S16 at h
  unfold pX3_slopesOfRoots_S16
  refine ps_iload_n C (pc := 16) dX3_slopesOfRoots_16 1 rfl ?_
  refine ps_bipush C (pc := 17) (v := 8) dX3_slopesOfRoots_17 (by decide) ?_
  refine ps_icmp_gt C (pc := 19) 48 dX3_slopesOfRoots_19 (by decide) (fun hc => ?_) (fun hc => ?_)
  · have h := ps_ift hc h
    obtain rfl := Option.some.inj h
    exact ps_sub [] rfl k
  · have h := ps_iff hc h
    refine ps_aload_n C (pc := 22) dX3_slopesOfRoots_22 0 rfl ?_
    refine pg_39_1 C (pc := 23) tw_200 dX3_slopesOfRoots_23 ?_
    refine ps_iload_n C (pc := 26) dX3_slopesOfRoots_26 1 rfl ?_
    refine ps_aload_n C (pc := 27) dX3_slopesOfRoots_27 0 rfl ?_
    refine pg_39_1 C (pc := 28) tw_200 dX3_slopesOfRoots_28 ?_
    refine ps_iload_n C (pc := 31) dX3_slopesOfRoots_31 1 rfl ?_
    refine ps_iconst C (pc := 32) (v := 1) dX3_slopesOfRoots_32 (by decide) ?_
    refine ps_isub C (pc := 33) dX3_slopesOfRoots_33 ?_
    obtain ⟨hi5, h⟩ := ps_ck_s h
    refine ps_lald C (pc := 34) 41 rfl rfl hi5 dX3_slopesOfRoots_34 ?_
    refine ps_lneg C (pc := 35) dX3_slopesOfRoots_35 ?_
    refine ps_iload_n C (pc := 36) dX3_slopesOfRoots_36 1 rfl ?_
    refine ps_iconst C (pc := 37) (v := 1) dX3_slopesOfRoots_37 (by decide) ?_
    refine ps_isub C (pc := 38) dX3_slopesOfRoots_38 ?_
    refine ps_i2l C (pc := 39) dX3_slopesOfRoots_39 ?_
    refine ps_lmul C (pc := 40) dX3_slopesOfRoots_40 ?_
    obtain ⟨hi6, h⟩ := ps_ck_s h
    refine ps_lastL C (pc := 41) 41 rfl rfl hi6 dX3_slopesOfRoots_41 h (fun σ7 h => ?_)
    refine ps_iincL C (pc := 42) (zz := 1) (lw := fun x8 => [(1, .int x8), (0, .ref (z_ad z 39))]) dX3_slopesOfRoots_42 1 rfl (by decide) (by decide) (fun _ => rfl) h (fun x8 h => ?_)
    refine ps_goto C (pc := 45) 16 dX3_slopesOfRoots_45 (by decide) ?_
    obtain rfl := Option.some.inj h
    exact ps_sub [1, 0] rfl k
def fX3_slopesOfRoots (σ : ps_S) : Option (ps_S) :=
  (ps_ck (0 : Int32) 9 ((ps_let (ps_ul σ 41 (Int32.toNatClampNeg (0 : Int32)) (0 : Int64)) fun σ2 =>
  (ps_ck (1 : Int32) 9 ((ps_let (ps_ul σ2 41 (Int32.toNatClampNeg (1 : Int32)) (1 : Int64)) fun σ4 =>
  ((ps_lp (fun s => fX3_slopesOfRoots_S16  s.1 s.2) 100000 ((2 : Int32), σ4)).bind fun e9 =>
  some e9)))))))
set_option maxHeartbeats 4000000 in
set_option maxRecDepth 100000 in
theorem tX3_slopesOfRoots {z : ps_X} (C : ps_C z cX3_slopesOfRoots 2 "PartSums$Series") (Z : ps_Z z 0 0) {σ : ps_S}  {r : ps_S} (h : fX3_slopesOfRoots σ = some r) (k : ps_KV z 2 cX3_slopesOfRoots r) : ps_at z 2 0 [(0, .ref (z_ad z 39))] [] σ := by
  unfold fX3_slopesOfRoots at h
  refine ps_aload_n C (pc := 0) dX3_slopesOfRoots_0 0 rfl ?_
  refine pg_39_1 C (pc := 1) tw_200 dX3_slopesOfRoots_1 ?_
  refine ps_iconst C (pc := 4) (v := 0) dX3_slopesOfRoots_4 (by decide) ?_
  refine ps_lconst C (pc := 5) (v := 0) dX3_slopesOfRoots_5 (by decide) ?_
  obtain ⟨hi1, h⟩ := ps_ck_s h
  refine ps_lastL C (pc := 6) 41 rfl rfl hi1 dX3_slopesOfRoots_6 h (fun σ2 h => ?_)
  refine ps_aload_n C (pc := 7) dX3_slopesOfRoots_7 0 rfl ?_
  refine pg_39_1 C (pc := 8) tw_200 dX3_slopesOfRoots_8 ?_
  refine ps_iconst C (pc := 11) (v := 1) dX3_slopesOfRoots_11 (by decide) ?_
  refine ps_lconst C (pc := 12) (v := 1) dX3_slopesOfRoots_12 (by decide) ?_
  obtain ⟨hi3, h⟩ := ps_ck_s h
  refine ps_lastL C (pc := 13) 41 rfl rfl hi3 dX3_slopesOfRoots_13 h (fun σ4 h => ?_)
  refine ps_iconst C (pc := 14) (v := 2) dX3_slopesOfRoots_14 (by decide) ?_
  refine ps_istore_n C (pc := 15) (lv' := [(1, .int (2 : Int32)), (0, .ref (z_ad z 39))]) dX3_slopesOfRoots_15 (by decide) rfl ?_
  obtain ⟨e9, he9, h⟩ := ps_bd h
  refine ps_sub [1, 0] rfl ?_
  refine ps_loop (P := pX3_slopesOfRoots_S16 z ) (K := qX3_slopesOfRoots_S16 z ) (fun s r h k => tX3_slopesOfRoots_S16 C Z   s r h k) _ _ _ he9 ?_
  unfold qX3_slopesOfRoots_S16
  obtain rfl := Option.some.inj h
  exact k _ _ dX3_slopesOfRoots_48
def rmX3_slopesOfRoots : Room := { frames := 0, cells := 0, slots := 0, locals := 0 }
theorem mX3_slopesOfRoots {l : Launch} {E : ps_E} {σ : ps_S}  {r : ps_S}  (h : fX3_slopesOfRoots σ = some r) : ps_MV l yX3_slopesOfRoots (ps_wm yX3_slopesOfRoots cX3_slopesOfRoots 2 none) rmX3_slopesOfRoots [.ref (e_ad E 39)] E σ r :=
  ps_metV yX3_slopesOfRoots rmX3_slopesOfRoots 2 (own := "PartSums$Series")  (by decide +kernel) rfl (Nat.le_of_ble_eq_true rfl) rfl (fun z e1 e2 e3 e4 e5 C k => by
    subst e5
    exact tX3_slopesOfRoots C (ps_Zof e1 e3 e4)  h k)
theorem hdX3_slopesOfRoots : yX3_slopesOfRoots.cls ≠ "java/lang/invoke/MethodHandle" ∧ yX3_slopesOfRoots.cls ≠ "java/lang/invoke/VarHandle" ∧ (parseMethodDescriptor yX3_slopesOfRoots.desc).map (fun d => d.parameters.length) = some 0 := by decide +kernel
def pX3_slopesOfCount_S2 (z : ps_X) (a1 : Int32) (s : Int32 × ps_S) : Prop := ps_at z 3 2 [(0, .ref (z_ad z 39)), (1, .int a1), (2, .int s.1)] [] s.2
def qX3_slopesOfCount_S2 (z : ps_X) (a1 : Int32) (x : (ps_S)) : Prop := match x with | y => ps_at z 3 30 [] [] y
def fX3_slopesOfCount_J23 (a1 : Int32) (a2 : Int32) (u0 : Int64) (u1 : Int32) (σ : ps_S) : Option ((Int32 × ps_S) ⊕ ((ps_S))) :=
  (ps_ck u1 9 ((ps_let (ps_ul σ 41 (Int32.toNatClampNeg u1) u0) fun σ2 =>
  (ps_let (a2 + (1 : Int32)) fun x3 =>
  some (.inl (x3, σ2))))))
set_option maxHeartbeats 4000000 in
set_option maxRecDepth 100000 in
theorem tX3_slopesOfCount_J23 {z : ps_X} (C : ps_C z cX3_slopesOfCount 3 "PartSums$Series") (Z : ps_Z z 0 0) {a1 : Int32} {a2 : Int32} {u0 : Int64} {u1 : Int32} {σ : ps_S}  {r : (Int32 × ps_S) ⊕ ((ps_S))} (h : fX3_slopesOfCount_J23 a1 a2 u0 u1 σ = some r) (k : ps_k (pX3_slopesOfCount_S2 z a1) (qX3_slopesOfCount_S2 z a1) r) : ps_at z 3 23 [(0, .ref (z_ad z 39)), (1, .int a1), (2, .int a2)] [.long u0, .int u1, .ref (z_ad z 41)] σ := by
  unfold fX3_slopesOfCount_J23 at h
  obtain ⟨hi1, h⟩ := ps_ck_s h
  refine ps_lastL C (pc := 23) 41 rfl rfl hi1 dX3_slopesOfCount_23 h (fun σ2 h => ?_)
  refine ps_iincL C (pc := 24) (zz := 1) (lw := fun x3 => [(2, .int x3), (0, .ref (z_ad z 39)), (1, .int a1)]) dX3_slopesOfCount_24 2 rfl (by decide) (by decide) (fun _ => rfl) h (fun x3 h => ?_)
  refine ps_goto C (pc := 27) 2 dX3_slopesOfCount_27 (by decide) ?_
  obtain rfl := Option.some.inj h
  exact ps_sub [1, 2, 0] rfl k
def fX3_slopesOfCount_S2 (a1 : Int32) (a2 : Int32) (σ : ps_S) : Option ((Int32 × ps_S) ⊕ ((ps_S))) :=
  (if (8 : Int32) < a2 then some (.inr σ)
  else (if a2 = a1 then fX3_slopesOfCount_J23 a1 a2 (1 : Int64) a2 σ
  else fX3_slopesOfCount_J23 a1 a2 (0 : Int64) a2 σ))
set_option maxHeartbeats 4000000 in
set_option maxRecDepth 100000 in
theorem tX3_slopesOfCount_S2 {z : ps_X} (C : ps_C z cX3_slopesOfCount 3 "PartSums$Series") (Z : ps_Z z 0 0) (a1 : Int32)  (s : Int32 × ps_S) (r : (Int32 × ps_S) ⊕ ((ps_S))) (h : fX3_slopesOfCount_S2 a1 s.1 s.2 = some r) (k : ps_k (pX3_slopesOfCount_S2 z a1) (qX3_slopesOfCount_S2 z a1) r) : pX3_slopesOfCount_S2 z a1 s := by
  obtain ⟨a2, σ⟩ := s
  unfold fX3_slopesOfCount_S2 at h
  unfold pX3_slopesOfCount_S2
  refine ps_iload_n C (pc := 2) dX3_slopesOfCount_2 2 rfl ?_
  refine ps_bipush C (pc := 3) (v := 8) dX3_slopesOfCount_3 (by decide) ?_
  refine ps_icmp_gt C (pc := 5) 30 dX3_slopesOfCount_5 (by decide) (fun hc => ?_) (fun hc => ?_)
  · have h := ps_ift hc h
    obtain rfl := Option.some.inj h
    exact ps_sub [] rfl k
  · have h := ps_iff hc h
    refine ps_aload_n C (pc := 8) dX3_slopesOfCount_8 0 rfl ?_
    refine pg_39_1 C (pc := 9) tw_200 dX3_slopesOfCount_9 ?_
    refine ps_iload_n C (pc := 12) dX3_slopesOfCount_12 2 rfl ?_
    refine ps_iload_n C (pc := 13) dX3_slopesOfCount_13 2 rfl ?_
    refine ps_iload_n C (pc := 14) dX3_slopesOfCount_14 1 rfl ?_
    refine ps_icmp_ne C (pc := 15) 22 dX3_slopesOfCount_15 (by decide) (fun hc => ?_) (fun hc => ?_)
    · have h := ps_iff hc h
      refine ps_lconst C (pc := 22) (v := 0) dX3_slopesOfCount_22 (by decide) ?_
      exact ps_sub [0, 1, 2] rfl (tX3_slopesOfCount_J23 C Z  h k)
    · have h := ps_ift hc h
      refine ps_lconst C (pc := 18) (v := 1) dX3_slopesOfCount_18 (by decide) ?_
      refine ps_goto C (pc := 19) 23 dX3_slopesOfCount_19 (by decide) ?_
      exact ps_sub [0, 1, 2] rfl (tX3_slopesOfCount_J23 C Z  h k)
def fX3_slopesOfCount (a1 : Int32) (σ : ps_S) : Option (ps_S) :=
  ((ps_lp (fun s => fX3_slopesOfCount_S2 a1 s.1 s.2) 100000 ((0 : Int32), σ)).bind fun e4 =>
  some e4)
set_option maxHeartbeats 4000000 in
set_option maxRecDepth 100000 in
theorem tX3_slopesOfCount {z : ps_X} (C : ps_C z cX3_slopesOfCount 3 "PartSums$Series") (Z : ps_Z z 0 0) {a1 : Int32} {σ : ps_S}  {r : ps_S} (h : fX3_slopesOfCount a1 σ = some r) (k : ps_KV z 3 cX3_slopesOfCount r) : ps_at z 3 0 [(0, .ref (z_ad z 39)), (1, .int a1)] [] σ := by
  unfold fX3_slopesOfCount at h
  refine ps_iconst C (pc := 0) (v := 0) dX3_slopesOfCount_0 (by decide) ?_
  refine ps_istore_n C (pc := 1) (lv' := [(2, .int (0 : Int32)), (0, .ref (z_ad z 39)), (1, .int a1)]) dX3_slopesOfCount_1 (by decide) rfl ?_
  obtain ⟨e4, he4, h⟩ := ps_bd h
  refine ps_sub [1, 2, 0] rfl ?_
  refine ps_loop (P := pX3_slopesOfCount_S2 z a1) (K := qX3_slopesOfCount_S2 z a1) (fun s r h k => tX3_slopesOfCount_S2 C Z a1  s r h k) _ _ _ he4 ?_
  unfold qX3_slopesOfCount_S2
  obtain rfl := Option.some.inj h
  exact k _ _ dX3_slopesOfCount_30
def rmX3_slopesOfCount : Room := { frames := 0, cells := 0, slots := 0, locals := 0 }
theorem mX3_slopesOfCount {l : Launch} {E : ps_E} {σ : ps_S} {a1 : Int32} {r : ps_S}  (h : fX3_slopesOfCount a1 σ = some r) : ps_MV l yX3_slopesOfCount (ps_wm yX3_slopesOfCount cX3_slopesOfCount 3 none) rmX3_slopesOfCount [.ref (e_ad E 39), .int a1] E σ r :=
  ps_metV yX3_slopesOfCount rmX3_slopesOfCount 3 (own := "PartSums$Series")  (by decide +kernel) rfl (Nat.le_of_ble_eq_true rfl) rfl (fun z e1 e2 e3 e4 e5 C k => by
    subst e5
    exact tX3_slopesOfCount C (ps_Zof e1 e3 e4)  h k)
theorem hdX3_slopesOfCount : yX3_slopesOfCount.cls ≠ "java/lang/invoke/MethodHandle" ∧ yX3_slopesOfCount.cls ≠ "java/lang/invoke/VarHandle" ∧ (parseMethodDescriptor yX3_slopesOfCount.desc).map (fun d => d.parameters.length) = some 1 := by decide +kernel
def pX3_takeOut_S28 (z : ps_X) (k1 : Nat) (a3 : Int32) (a4 : Int32) (σ : ps_S) (s : Int64 × Int32) : Prop := ps_at z 8 28 [(0, .ref (z_ad z 39)), (1, .ref (z_ad z k1)), (3, .int a3), (4, .int a4), (5, .long s.1), (7, .int s.2)] [] σ
def qX3_takeOut_S28 (z : ps_X) (k1 : Nat) (a3 : Int32) (a4 : Int32) (σ : ps_S) (x : (Int64)) : Prop := match x with | y => ps_at z 8 67 [(5, .long y)] [] σ
def fX3_takeOut_S28 (k1 : Nat) (a3 : Int32) (a4 : Int32) (σ : ps_S) (a5 : Int64) (a7 : Int32) : Option ((Int64 × Int32) ⊕ ((Int64))) :=
  (if a7 ≤ 0 then some (.inr a5)
  else (ps_ck (a4 ||| a7) (ps_ln k1) ((ps_ck (a3 ^^^ a7) 256 ((ps_let (a5 + ((Int32.toInt64 (σ.1 k1 (Int32.toNatClampNeg (a4 ||| a7)))) * (σ.2 40 (Int32.toNatClampNeg (a3 ^^^ a7))))) fun x8 =>
  (ps_let ((a7 - (1 : Int32)) &&& a3) fun x9 =>
  some (.inl (x8, x9)))))))))
set_option maxHeartbeats 4000000 in
set_option maxRecDepth 100000 in
theorem tX3_takeOut_S28 {z : ps_X} (C : ps_C z cX3_takeOut 8 "PartSums$Series") (Z : ps_Z z 0 0) (k1 : Nat) (a3 : Int32) (a4 : Int32) (σ : ps_S) (hk1 : ps_kd k1 = 1) (s : Int64 × Int32) (r : (Int64 × Int32) ⊕ ((Int64))) (h : fX3_takeOut_S28 k1 a3 a4 σ s.1 s.2 = some r) (k : ps_k (pX3_takeOut_S28 z k1 a3 a4 σ) (qX3_takeOut_S28 z k1 a3 a4 σ) r) : pX3_takeOut_S28 z k1 a3 a4 σ s := by
  obtain ⟨a5, a7⟩ := s
  unfold fX3_takeOut_S28 at h
  unfold pX3_takeOut_S28
  refine ps_iload C (pc := 28) dX3_takeOut_28 5 rfl ?_
  refine ps_if_le C (pc := 30) 67 dX3_takeOut_30 (by decide) (fun hc => ?_) (fun hc => ?_)
  · have h := ps_ift hc h
    obtain rfl := Option.some.inj h
    exact ps_sub [4] rfl k
  · have h := ps_iff hc h
    refine ps_lload C (pc := 33) dX3_takeOut_33 4 rfl ?_
    refine ps_aload_n C (pc := 35) dX3_takeOut_35 1 rfl ?_
    refine ps_iload C (pc := 36) dX3_takeOut_36 3 rfl ?_
    refine ps_iload C (pc := 38) dX3_takeOut_38 5 rfl ?_
    refine ps_ior C (pc := 40) dX3_takeOut_40 ?_
    obtain ⟨hi6, h⟩ := ps_ck_s h
    refine ps_iald C (pc := 41) k1 hk1 rfl hi6 dX3_takeOut_41 ?_
    refine ps_i2l C (pc := 42) dX3_takeOut_42 ?_
    refine ps_aload_n C (pc := 43) dX3_takeOut_43 0 rfl ?_
    refine pg_39_0 C (pc := 44) tw_198 dX3_takeOut_44 ?_
    refine ps_iload_n C (pc := 47) dX3_takeOut_47 2 rfl ?_
    refine ps_iload C (pc := 48) dX3_takeOut_48 5 rfl ?_
    refine ps_ixor C (pc := 50) dX3_takeOut_50 ?_
    obtain ⟨hi7, h⟩ := ps_ck_s h
    refine ps_lald C (pc := 51) 40 rfl rfl hi7 dX3_takeOut_51 ?_
    refine ps_lmul C (pc := 52) dX3_takeOut_52 ?_
    refine ps_ladd C (pc := 53) dX3_takeOut_53 ?_
    refine ps_lstoreL C (pc := 54) (lw := fun x8 => [(5, .long x8), (0, .ref (z_ad z 39)), (1, .ref (z_ad z k1)), (3, .int a3), (4, .int a4), (7, .int a7)]) dX3_takeOut_54 (by decide) (fun _ => rfl) h (fun x8 h => ?_)
    refine ps_iload C (pc := 56) dX3_takeOut_56 5 rfl ?_
    refine ps_iconst C (pc := 58) (v := 1) dX3_takeOut_58 (by decide) ?_
    refine ps_isub C (pc := 59) dX3_takeOut_59 ?_
    refine ps_iload_n C (pc := 60) dX3_takeOut_60 3 rfl ?_
    refine ps_iand C (pc := 61) dX3_takeOut_61 ?_
    refine ps_istoreL C (pc := 62) (lw := fun x9 => [(7, .int x9), (5, .long x8), (0, .ref (z_ad z 39)), (1, .ref (z_ad z k1)), (3, .int a3), (4, .int a4)]) dX3_takeOut_62 (by decide) (fun _ => rfl) h (fun x9 h => ?_)
    refine ps_goto C (pc := 64) 28 dX3_takeOut_64 (by decide) ?_
    obtain rfl := Option.some.inj h
    exact ps_sub [2, 3, 4, 5, 1, 0] rfl k
def fX3_takeOut (k1 : Nat) (a2 : Int32) (σ : ps_S) : Option (Int64) :=
  (ps_let (a2 &&& (a2 - (1 : Int32))) fun x1 =>
  (ps_let (a2 ^^^ x1) fun x2 =>
  (ps_ck x2 (ps_ln k1) ((ps_ck x1 256 ((ps_let ((Int32.toInt64 (σ.1 k1 (Int32.toNatClampNeg x2))) * (σ.2 40 (Int32.toNatClampNeg x1))) fun x5 =>
  ((ps_lp (fun s => fX3_takeOut_S28 k1 x1 x2 σ s.1 s.2) 100000 (x5, x1)).bind fun e10 =>
  some e10))))))))
set_option maxHeartbeats 4000000 in
set_option maxRecDepth 100000 in
theorem tX3_takeOut {z : ps_X} (C : ps_C z cX3_takeOut 8 "PartSums$Series") (Z : ps_Z z 0 0) {k1 : Nat} {a2 : Int32} {σ : ps_S} (hk1 : ps_kd k1 = 1) {r : Int64} (h : fX3_takeOut k1 a2 σ = some r) (k : ps_KL z 8 cX3_takeOut r σ) : ps_at z 8 0 [(0, .ref (z_ad z 39)), (1, .ref (z_ad z k1)), (2, .int a2)] [] σ := by
  unfold fX3_takeOut at h
  refine ps_iload_n C (pc := 0) dX3_takeOut_0 2 rfl ?_
  refine ps_iload_n C (pc := 1) dX3_takeOut_1 2 rfl ?_
  refine ps_iconst C (pc := 2) (v := 1) dX3_takeOut_2 (by decide) ?_
  refine ps_isub C (pc := 3) dX3_takeOut_3 ?_
  refine ps_iand C (pc := 4) dX3_takeOut_4 ?_
  refine ps_istoreL_n C (pc := 5) (lw := fun x1 => [(3, .int x1), (0, .ref (z_ad z 39)), (1, .ref (z_ad z k1)), (2, .int a2)]) dX3_takeOut_5 (by decide) (fun _ => rfl) h (fun x1 h => ?_)
  refine ps_iload_n C (pc := 6) dX3_takeOut_6 3 rfl ?_
  refine ps_iload_n C (pc := 7) dX3_takeOut_7 0 rfl ?_
  refine ps_ixor C (pc := 8) dX3_takeOut_8 ?_
  refine ps_istoreL C (pc := 9) (lw := fun x2 => [(4, .int x2), (3, .int x1), (0, .ref (z_ad z 39)), (1, .ref (z_ad z k1)), (2, .int a2)]) dX3_takeOut_9 (by decide) (fun _ => rfl) h (fun x2 h => ?_)
  refine ps_aload_n C (pc := 11) dX3_takeOut_11 3 rfl ?_
  refine ps_iload C (pc := 12) dX3_takeOut_12 0 rfl ?_
  obtain ⟨hi3, h⟩ := ps_ck_s h
  refine ps_iald C (pc := 14) k1 hk1 rfl hi3 dX3_takeOut_14 ?_
  refine ps_i2l C (pc := 15) dX3_takeOut_15 ?_
  refine ps_aload_n C (pc := 16) dX3_takeOut_16 2 rfl ?_
  refine pg_39_0 C (pc := 17) tw_198 dX3_takeOut_17 ?_
  refine ps_iload_n C (pc := 20) dX3_takeOut_20 1 rfl ?_
  obtain ⟨hi4, h⟩ := ps_ck_s h
  refine ps_lald C (pc := 21) 40 rfl rfl hi4 dX3_takeOut_21 ?_
  refine ps_lmul C (pc := 22) dX3_takeOut_22 ?_
  refine ps_lstoreL C (pc := 23) (lw := fun x5 => [(5, .long x5), (4, .int x2), (3, .int x1), (0, .ref (z_ad z 39)), (1, .ref (z_ad z k1)), (2, .int a2)]) dX3_takeOut_23 (by decide) (fun _ => rfl) h (fun x5 h => ?_)
  refine ps_iload_n C (pc := 25) dX3_takeOut_25 2 rfl ?_
  refine ps_istore C (pc := 26) (lv' := [(7, .int x1), (5, .long x5), (4, .int x2), (3, .int x1), (0, .ref (z_ad z 39)), (1, .ref (z_ad z k1)), (2, .int a2)]) dX3_takeOut_26 (by decide) rfl ?_
  obtain ⟨e10, he10, h⟩ := ps_bd h
  refine ps_sub [4, 5, 3, 2, 1, 0] rfl ?_
  refine ps_loop (P := pX3_takeOut_S28 z k1 x1 x2 σ) (K := qX3_takeOut_S28 z k1 x1 x2 σ) (fun s r h k => tX3_takeOut_S28 C Z k1 x1 x2 σ hk1 s r h k) _ _ _ he10 ?_
  unfold qX3_takeOut_S28
  refine ps_lload C (pc := 67) dX3_takeOut_67 0 rfl ?_
  obtain rfl := Option.some.inj h
  exact k _ _ dX3_takeOut_69
def rmX3_takeOut : Room := { frames := 0, cells := 0, slots := 0, locals := 0 }
theorem mX3_takeOut {l : Launch} {E : ps_E} {σ : ps_S} {k1 : Nat} {a2 : Int32} {r : Int64} (hk1 : ps_kd k1 = 1) (h : fX3_takeOut k1 a2 σ = some r) : ps_ML l yX3_takeOut (ps_wm yX3_takeOut cX3_takeOut 8 (some .long)) rmX3_takeOut [.ref (e_ad E 39), .ref (e_ad E k1), .int a2] E σ r σ :=
  ps_metL yX3_takeOut rmX3_takeOut 8 (own := "PartSums$Series") r (by decide +kernel) rfl (Nat.le_of_ble_eq_true rfl) rfl (fun z e1 e2 e3 e4 e5 C k => by
    subst e5
    exact tX3_takeOut C (ps_Zof e1 e3 e4) hk1 h k)
theorem hdX3_takeOut : yX3_takeOut.cls ≠ "java/lang/invoke/MethodHandle" ∧ yX3_takeOut.cls ≠ "java/lang/invoke/VarHandle" ∧ (parseMethodDescriptor yX3_takeOut.desc).map (fun d => d.parameters.length) = some 2 := by decide +kernel
def pX3_compose_S22 (z : ps_X) (k1 : Nat) (a3 : Int32) (a4 : Int32) (s : Int32 × ps_S) : Prop := ps_at z 10 22 [(0, .ref (z_ad z 39)), (1, .ref (z_ad z k1)), (3, .int a3), (4, .int a4), (5, .int s.1)] [] s.2
def qX3_compose_S22 (z : ps_X) (k1 : Nat) (a3 : Int32) (a4 : Int32) (x : (ps_S)) : Prop := match x with | y => ps_at z 10 105 [] [] y
def pX3_compose_S40 (z : ps_X) (k1 : Nat) (a3 : Int32) (a4 : Int32) (a5 : Int32) (a6 : Int32) (s : Int32 × ps_S) : Prop := ps_at z 10 40 [(0, .ref (z_ad z 39)), (1, .ref (z_ad z k1)), (3, .int a3), (4, .int a4), (5, .int a5), (6, .int a6), (7, .int s.1)] [] s.2
def qX3_compose_S40 (z : ps_X) (k1 : Nat) (a3 : Int32) (a4 : Int32) (a5 : Int32) (a6 : Int32) (x : (ps_S)) : Prop := match x with | y => ps_at z 10 86 [(0, .ref (z_ad z 39)), (1, .ref (z_ad z k1)), (3, .int a3), (4, .int a4), (5, .int a5)] [] y
def fX3_compose_J75 (k1 : Nat) (a3 : Int32) (a4 : Int32) (a5 : Int32) (a6 : Int32) (a7 : Int32) (u0 : Int64) (u1 : Int32) (σ : ps_S) : Option ((Int32 × ps_S) ⊕ ((ps_S))) :=
  (ps_ck u1 256 ((ps_let (ps_ul σ 40 (Int32.toNatClampNeg u1) u0) fun σ11 =>
  (ps_let (a7 - a6) fun x12 =>
  some (.inl (x12, σ11))))))
set_option maxHeartbeats 4000000 in
set_option maxRecDepth 100000 in
theorem tX3_compose_J75 {z : ps_X} (C : ps_C z cX3_compose 10 "PartSums$Series") (Z : ps_Z z 1 27) {k1 : Nat} {a3 : Int32} {a4 : Int32} {a5 : Int32} {a6 : Int32} {a7 : Int32} {u0 : Int64} {u1 : Int32} {σ : ps_S} (hk1 : ps_kd k1 = 1) {r : (Int32 × ps_S) ⊕ ((ps_S))} (h : fX3_compose_J75 k1 a3 a4 a5 a6 a7 u0 u1 σ = some r) (k : ps_k (pX3_compose_S40 z k1 a3 a4 a5 a6) (qX3_compose_S40 z k1 a3 a4 a5 a6) r) : ps_at z 10 75 [(0, .ref (z_ad z 39)), (1, .ref (z_ad z k1)), (3, .int a3), (4, .int a4), (5, .int a5), (6, .int a6), (7, .int a7)] [.long u0, .int u1, .ref (z_ad z 40)] σ := by
  unfold fX3_compose_J75 at h
  obtain ⟨hi10, h⟩ := ps_ck_s h
  refine ps_lastL C (pc := 75) 40 rfl rfl hi10 dX3_compose_75 h (fun σ11 h => ?_)
  refine ps_iload C (pc := 76) dX3_compose_76 6 rfl ?_
  refine ps_iload C (pc := 78) dX3_compose_78 5 rfl ?_
  refine ps_isub C (pc := 80) dX3_compose_80 ?_
  refine ps_istoreL C (pc := 81) (lw := fun x12 => [(7, .int x12), (0, .ref (z_ad z 39)), (1, .ref (z_ad z k1)), (3, .int a3), (4, .int a4), (5, .int a5), (6, .int a6)]) dX3_compose_81 (by decide) (fun _ => rfl) h (fun x12 h => ?_)
  refine ps_goto C (pc := 83) 40 dX3_compose_83 (by decide) ?_
  obtain rfl := Option.some.inj h
  exact ps_sub [1, 2, 3, 4, 5, 6, 0] rfl k
def fX3_compose_S40 (k1 : Nat) (a3 : Int32) (a4 : Int32) (a5 : Int32) (a6 : Int32) (a7 : Int32) (σ : ps_S) : Option ((Int32 × ps_S) ⊕ ((ps_S))) :=
  (if a7 ≤ 0 then some (.inr σ)
  else ((fX3_takeOut k1 a7 σ).bind fun q8 =>
  (if a3 = 0 then ((fX4_reduce q8).bind fun q9 =>
  fX3_compose_J75 k1 a3 a4 a5 a6 a7 (Int32.toInt64 q9) a7 σ)
  else fX3_compose_J75 k1 a3 a4 a5 a6 a7 q8 a7 σ)))
set_option maxHeartbeats 4000000 in
set_option maxRecDepth 100000 in
theorem tX3_compose_S40 {z : ps_X} (C : ps_C z cX3_compose 10 "PartSums$Series") (Z : ps_Z z 1 27) (k1 : Nat) (a3 : Int32) (a4 : Int32) (a5 : Int32) (a6 : Int32) (hk1 : ps_kd k1 = 1) (s : Int32 × ps_S) (r : (Int32 × ps_S) ⊕ ((ps_S))) (h : fX3_compose_S40 k1 a3 a4 a5 a6 s.1 s.2 = some r) (k : ps_k (pX3_compose_S40 z k1 a3 a4 a5 a6) (qX3_compose_S40 z k1 a3 a4 a5 a6) r) : pX3_compose_S40 z k1 a3 a4 a5 a6 s := by
  obtain ⟨a7, σ⟩ := s
  unfold fX3_compose_S40 at h
  unfold pX3_compose_S40
  refine ps_iload C (pc := 40) dX3_compose_40 6 rfl ?_
  refine ps_if_le C (pc := 42) 86 dX3_compose_42 (by decide) (fun hc => ?_) (fun hc => ?_)
  · have h := ps_ift hc h
    obtain rfl := Option.some.inj h
    exact ps_sub [0, 1, 2, 3, 4] rfl k
  · have h := ps_iff hc h
    refine ps_aload_n C (pc := 45) dX3_compose_45 0 rfl ?_
    refine ps_aload_n C (pc := 46) dX3_compose_46 1 rfl ?_
    refine ps_iload C (pc := 47) dX3_compose_47 6 rfl ?_
    obtain ⟨q8, hq8, h⟩ := ps_bd h
    refine ps_callVL C Z (pc := 49) (As := [.ref (z_ad z k1), .int a7]) (k0 := 39) (mX3_takeOut hk1 hq8) (Cn := "PartSums$Series") rfl tw_536 tw_538 tw_16 tw_69 tw_539 hdX3_takeOut rfl rfl ⟨by decide, by decide⟩ (by decide) ps_o39 rfl rfl (Nat.le_of_ble_eq_true rfl) dX3_compose_49 rfl ?_
    refine ps_lstore C (pc := 52) (lv' := [(8, .long q8), (0, .ref (z_ad z 39)), (1, .ref (z_ad z k1)), (3, .int a3), (4, .int a4), (5, .int a5), (6, .int a6), (7, .int a7)]) dX3_compose_52 (by decide) rfl ?_
    refine ps_aload_n C (pc := 54) dX3_compose_54 1 rfl ?_
    refine pg_39_0 C (pc := 55) tw_198 dX3_compose_55 ?_
    refine ps_iload C (pc := 58) dX3_compose_58 7 rfl ?_
    refine ps_iload_n C (pc := 60) dX3_compose_60 3 rfl ?_
    refine ps_if_eq C (pc := 61) 69 dX3_compose_61 (by decide) (fun hc => ?_) (fun hc => ?_)
    · have h := ps_ift hc h
      refine ps_lload C (pc := 69) dX3_compose_69 0 rfl ?_
      obtain ⟨q9, hq9, h⟩ := ps_bd h
      refine ps_callNI C Z (pc := 71) (As := [.long q8]) (mX4_reduce  hq9) (host := "PartSums") (by simp [ps_nt]) tw_447 tw_65 tw_448 hdX4_reduce rfl rfl ⟨by decide, by decide⟩ rfl (Nat.le_of_ble_eq_true rfl) dX3_compose_71 rfl ?_
      refine ps_i2l C (pc := 74) dX3_compose_74 ?_
      exact ps_sub [1, 2, 3, 4, 5, 6, 7] rfl (tX3_compose_J75 C Z hk1 h k)
    · have h := ps_iff hc h
      refine ps_lload C (pc := 64) dX3_compose_64 0 rfl ?_
      refine ps_goto C (pc := 66) 75 dX3_compose_66 (by decide) ?_
      exact ps_sub [1, 2, 3, 4, 5, 6, 7] rfl (tX3_compose_J75 C Z hk1 h k)
def fX3_compose_S22 (k1 : Nat) (a3 : Int32) (a4 : Int32) (a5 : Int32) (σ : ps_S) : Option ((Int32 × ps_S) ⊕ ((ps_S))) :=
  (if a5 < 0 then some (.inr σ)
  else (ps_let ((1 : Int32) <<< (a5 &&& 31)) fun x6 =>
  (ps_let (a4 - x6) fun x7 =>
  ((ps_lp (fun s => fX3_compose_S40 k1 a3 a4 a5 x6 s.1 s.2) 100000 (x7, σ)).bind fun e13 =>
  (ps_ck a5 9 ((ps_ck (0 : Int32) 256 ((ps_let (ps_ul e13 40 (Int32.toNatClampNeg (0 : Int32)) (e13.2 41 (Int32.toNatClampNeg a5))) fun σ16 =>
  (ps_let (a5 + (-1 : Int32)) fun x17 =>
  some (.inl (x17, σ16))))))))))))
set_option maxHeartbeats 4000000 in
set_option maxRecDepth 100000 in
theorem tX3_compose_S22 {z : ps_X} (C : ps_C z cX3_compose 10 "PartSums$Series") (Z : ps_Z z 1 27) (k1 : Nat) (a3 : Int32) (a4 : Int32) (hk1 : ps_kd k1 = 1) (s : Int32 × ps_S) (r : (Int32 × ps_S) ⊕ ((ps_S))) (h : fX3_compose_S22 k1 a3 a4 s.1 s.2 = some r) (k : ps_k (pX3_compose_S22 z k1 a3 a4) (qX3_compose_S22 z k1 a3 a4) r) : pX3_compose_S22 z k1 a3 a4 s := by
  obtain ⟨a5, σ⟩ := s
  unfold fX3_compose_S22 at h
  unfold pX3_compose_S22
  refine ps_iload C (pc := 22) dX3_compose_22 4 rfl ?_
  refine ps_if_lt C (pc := 24) 105 dX3_compose_24 (by decide) (fun hc => ?_) (fun hc => ?_)
  · have h := ps_ift hc h
    obtain rfl := Option.some.inj h
    exact ps_sub [] rfl k
  · have h := ps_iff hc h
    refine ps_iconst C (pc := 27) (v := 1) dX3_compose_27 (by decide) ?_
    refine ps_iload C (pc := 28) dX3_compose_28 4 rfl ?_
    refine ps_ishl C (pc := 30) dX3_compose_30 ?_
    refine ps_istoreL C (pc := 31) (lw := fun x6 => [(6, .int x6), (0, .ref (z_ad z 39)), (1, .ref (z_ad z k1)), (3, .int a3), (4, .int a4), (5, .int a5)]) dX3_compose_31 (by decide) (fun _ => rfl) h (fun x6 h => ?_)
    refine ps_iload C (pc := 33) dX3_compose_33 4 rfl ?_
    refine ps_iload C (pc := 35) dX3_compose_35 0 rfl ?_
    refine ps_isub C (pc := 37) dX3_compose_37 ?_
    refine ps_istoreL C (pc := 38) (lw := fun x7 => [(7, .int x7), (6, .int x6), (0, .ref (z_ad z 39)), (1, .ref (z_ad z k1)), (3, .int a3), (4, .int a4), (5, .int a5)]) dX3_compose_38 (by decide) (fun _ => rfl) h (fun x7 h => ?_)
    obtain ⟨e13, he13, h⟩ := ps_bd h
    refine ps_sub [2, 3, 4, 5, 6, 1, 0] rfl ?_
    refine ps_loop (P := pX3_compose_S40 z k1 a3 a4 a5 x6) (K := qX3_compose_S40 z k1 a3 a4 a5 x6) (fun s r h k => tX3_compose_S40 C Z k1 a3 a4 a5 x6 hk1 s r h k) _ _ _ he13 ?_
    unfold qX3_compose_S40
    refine ps_aload_n C (pc := 86) dX3_compose_86 0 rfl ?_
    refine pg_39_0 C (pc := 87) tw_198 dX3_compose_87 ?_
    refine ps_iconst C (pc := 90) (v := 0) dX3_compose_90 (by decide) ?_
    refine ps_aload_n C (pc := 91) dX3_compose_91 0 rfl ?_
    refine pg_39_1 C (pc := 92) tw_200 dX3_compose_92 ?_
    refine ps_iload C (pc := 95) dX3_compose_95 4 rfl ?_
    obtain ⟨hi14, h⟩ := ps_ck_s h
    refine ps_lald C (pc := 97) 41 rfl rfl hi14 dX3_compose_97 ?_
    obtain ⟨hi15, h⟩ := ps_ck_s h
    refine ps_lastL C (pc := 98) 40 rfl rfl hi15 dX3_compose_98 h (fun σ16 h => ?_)
    refine ps_iincL C (pc := 99) (zz := -1) (lw := fun x17 => [(5, .int x17), (0, .ref (z_ad z 39)), (1, .ref (z_ad z k1)), (3, .int a3), (4, .int a4)]) dX3_compose_99 4 rfl (by decide) (by decide) (fun _ => rfl) h (fun x17 h => ?_)
    refine ps_goto C (pc := 102) 22 dX3_compose_102 (by decide) ?_
    obtain rfl := Option.some.inj h
    exact ps_sub [1, 2, 3, 4, 0] rfl k
def fX3_compose (k1 : Nat) (a2 : Int32) (a3 : Int32) (σ : ps_S) : Option (ps_S) :=
  (ps_let ((1 : Int32) <<< (a2 &&& 31)) fun x1 =>
  (ps_ck a2 9 ((ps_ck (0 : Int32) 256 ((ps_let (ps_ul σ 40 (Int32.toNatClampNeg (0 : Int32)) (σ.2 41 (Int32.toNatClampNeg a2))) fun σ4 =>
  (ps_let (a2 - (1 : Int32)) fun x5 =>
  ((ps_lp (fun s => fX3_compose_S22 k1 a3 x1 s.1 s.2) 100000 (x5, σ4)).bind fun e18 =>
  some e18))))))))
set_option maxHeartbeats 4000000 in
set_option maxRecDepth 100000 in
theorem tX3_compose {z : ps_X} (C : ps_C z cX3_compose 10 "PartSums$Series") (Z : ps_Z z 1 27) {k1 : Nat} {a2 : Int32} {a3 : Int32} {σ : ps_S} (hk1 : ps_kd k1 = 1) {r : ps_S} (h : fX3_compose k1 a2 a3 σ = some r) (k : ps_KV z 10 cX3_compose r) : ps_at z 10 0 [(0, .ref (z_ad z 39)), (1, .ref (z_ad z k1)), (2, .int a2), (3, .int a3)] [] σ := by
  unfold fX3_compose at h
  refine ps_iconst C (pc := 0) (v := 1) dX3_compose_0 (by decide) ?_
  refine ps_iload_n C (pc := 1) dX3_compose_1 2 rfl ?_
  refine ps_ishl C (pc := 2) dX3_compose_2 ?_
  refine ps_istoreL C (pc := 3) (lw := fun x1 => [(4, .int x1), (0, .ref (z_ad z 39)), (1, .ref (z_ad z k1)), (2, .int a2), (3, .int a3)]) dX3_compose_3 (by decide) (fun _ => rfl) h (fun x1 h => ?_)
  refine ps_aload_n C (pc := 5) dX3_compose_5 1 rfl ?_
  refine pg_39_0 C (pc := 6) tw_198 dX3_compose_6 ?_
  refine ps_iconst C (pc := 9) (v := 0) dX3_compose_9 (by decide) ?_
  refine ps_aload_n C (pc := 10) dX3_compose_10 1 rfl ?_
  refine pg_39_1 C (pc := 11) tw_200 dX3_compose_11 ?_
  refine ps_iload_n C (pc := 14) dX3_compose_14 3 rfl ?_
  obtain ⟨hi2, h⟩ := ps_ck_s h
  refine ps_lald C (pc := 15) 41 rfl rfl hi2 dX3_compose_15 ?_
  obtain ⟨hi3, h⟩ := ps_ck_s h
  refine ps_lastL C (pc := 16) 40 rfl rfl hi3 dX3_compose_16 h (fun σ4 h => ?_)
  refine ps_iload_n C (pc := 17) dX3_compose_17 3 rfl ?_
  refine ps_iconst C (pc := 18) (v := 1) dX3_compose_18 (by decide) ?_
  refine ps_isub C (pc := 19) dX3_compose_19 ?_
  refine ps_istoreL C (pc := 20) (lw := fun x5 => [(5, .int x5), (4, .int x1), (0, .ref (z_ad z 39)), (1, .ref (z_ad z k1)), (2, .int a2), (3, .int a3)]) dX3_compose_20 (by decide) (fun _ => rfl) h (fun x5 h => ?_)
  obtain ⟨e18, he18, h⟩ := ps_bd h
  refine ps_sub [2, 3, 5, 1, 0] rfl ?_
  refine ps_loop (P := pX3_compose_S22 z k1 a3 x1) (K := qX3_compose_S22 z k1 a3 x1) (fun s r h k => tX3_compose_S22 C Z k1 a3 x1 hk1 s r h k) _ _ _ he18 ?_
  unfold qX3_compose_S22
  obtain rfl := Option.some.inj h
  exact k _ _ dX3_compose_105
def rmX3_compose : Room := { frames := 1, cells := 0, slots := 0, locals := 27 }
theorem mX3_compose {l : Launch} {E : ps_E} {σ : ps_S} {k1 : Nat} {a2 : Int32} {a3 : Int32} {r : ps_S} (hk1 : ps_kd k1 = 1) (h : fX3_compose k1 a2 a3 σ = some r) : ps_MV l yX3_compose (ps_wm yX3_compose cX3_compose 10 none) rmX3_compose [.ref (e_ad E 39), .ref (e_ad E k1), .int a2, .int a3] E σ r :=
  ps_metV yX3_compose rmX3_compose 10 (own := "PartSums$Series")  (by decide +kernel) rfl (Nat.le_of_ble_eq_true rfl) rfl (fun z e1 e2 e3 e4 e5 C k => by
    subst e5
    exact tX3_compose C (ps_Zof e1 e3 e4) hk1 h k)
theorem hdX3_compose : yX3_compose.cls ≠ "java/lang/invoke/MethodHandle" ∧ yX3_compose.cls ≠ "java/lang/invoke/VarHandle" ∧ (parseMethodDescriptor yX3_compose.desc).map (fun d => d.parameters.length) = some 3 := by decide +kernel
