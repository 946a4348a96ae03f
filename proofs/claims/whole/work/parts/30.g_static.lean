def fJ6_bitCount_0f7a4 (a0 : Int32) : Option (Int32) :=
  (ps_let (a0 - ((a0.toUInt32 >>> (Int32.toUInt32 (1 : Int32) &&& Int32.toUInt32 31)).toInt32 &&& (1431655765 : Int32))) fun x1 =>
  (ps_let ((x1 &&& (858993459 : Int32)) + ((x1.toUInt32 >>> (Int32.toUInt32 (2 : Int32) &&& Int32.toUInt32 31)).toInt32 &&& (858993459 : Int32))) fun x2 =>
  (ps_let ((x2 + (x2.toUInt32 >>> (Int32.toUInt32 (4 : Int32) &&& Int32.toUInt32 31)).toInt32) &&& (252645135 : Int32)) fun x3 =>
  (ps_let (x3 + (x3.toUInt32 >>> (Int32.toUInt32 (8 : Int32) &&& Int32.toUInt32 31)).toInt32) fun x4 =>
  (ps_let (x4 + (x4.toUInt32 >>> (Int32.toUInt32 (16 : Int32) &&& Int32.toUInt32 31)).toInt32) fun x5 =>
  some (x5 &&& (63 : Int32)))))))
set_option maxHeartbeats 4000000 in
set_option maxRecDepth 100000 in
theorem tJ6_bitCount_0f7a4 {z : ps_X} (C : ps_C z cJ6_bitCount_0f7a4 1 "java/lang/Integer") (Z : ps_Z z 0 0) {a0 : Int32}  {σ : ps_S} {r : Int32} (h : fJ6_bitCount_0f7a4 a0 = some r) (k : ps_KI z 1 cJ6_bitCount_0f7a4 r σ) : ps_at z 1 0 [(0, .int a0)] [] σ := by
  unfold fJ6_bitCount_0f7a4 at h
  refine ps_iload_n C (pc := 0) dJ6_bitCount_0f7a4_0 0 rfl ?_
  refine ps_iload_n C (pc := 1) dJ6_bitCount_0f7a4_1 0 rfl ?_
  refine ps_iconst C (pc := 2) (v := 1) dJ6_bitCount_0f7a4_2 (by decide) ?_
  refine ps_iushr C (pc := 3) dJ6_bitCount_0f7a4_3 ?_
  refine ps_ldcw C (pc := 4) tw_361 dJ6_bitCount_0f7a4_4 ?_
  refine ps_iand C (pc := 7) dJ6_bitCount_0f7a4_7 ?_
  refine ps_isub C (pc := 8) dJ6_bitCount_0f7a4_8 ?_
  refine ps_istoreL_n C (pc := 9) (lw := fun x1 => [(0, .int x1)]) dJ6_bitCount_0f7a4_9 (by decide) (fun _ => rfl) h (fun x1 h => ?_)
  refine ps_iload_n C (pc := 10) dJ6_bitCount_0f7a4_10 0 rfl ?_
  refine ps_ldcw C (pc := 11) tw_362 dJ6_bitCount_0f7a4_11 ?_
  refine ps_iand C (pc := 14) dJ6_bitCount_0f7a4_14 ?_
  refine ps_iload_n C (pc := 15) dJ6_bitCount_0f7a4_15 0 rfl ?_
  refine ps_iconst C (pc := 16) (v := 2) dJ6_bitCount_0f7a4_16 (by decide) ?_
  refine ps_iushr C (pc := 17) dJ6_bitCount_0f7a4_17 ?_
  refine ps_ldcw C (pc := 18) tw_362 dJ6_bitCount_0f7a4_18 ?_
  refine ps_iand C (pc := 21) dJ6_bitCount_0f7a4_21 ?_
  refine ps_iadd C (pc := 22) dJ6_bitCount_0f7a4_22 ?_
  refine ps_istoreL_n C (pc := 23) (lw := fun x2 => [(0, .int x2)]) dJ6_bitCount_0f7a4_23 (by decide) (fun _ => rfl) h (fun x2 h => ?_)
  refine ps_iload_n C (pc := 24) dJ6_bitCount_0f7a4_24 0 rfl ?_
  refine ps_iload_n C (pc := 25) dJ6_bitCount_0f7a4_25 0 rfl ?_
  refine ps_iconst C (pc := 26) (v := 4) dJ6_bitCount_0f7a4_26 (by decide) ?_
  refine ps_iushr C (pc := 27) dJ6_bitCount_0f7a4_27 ?_
  refine ps_iadd C (pc := 28) dJ6_bitCount_0f7a4_28 ?_
  refine ps_ldcw C (pc := 29) tw_363 dJ6_bitCount_0f7a4_29 ?_
  refine ps_iand C (pc := 32) dJ6_bitCount_0f7a4_32 ?_
  refine ps_istoreL_n C (pc := 33) (lw := fun x3 => [(0, .int x3)]) dJ6_bitCount_0f7a4_33 (by decide) (fun _ => rfl) h (fun x3 h => ?_)
  refine ps_iload_n C (pc := 34) dJ6_bitCount_0f7a4_34 0 rfl ?_
  refine ps_iload_n C (pc := 35) dJ6_bitCount_0f7a4_35 0 rfl ?_
  refine ps_bipush C (pc := 36) (v := 8) dJ6_bitCount_0f7a4_36 (by decide) ?_
  refine ps_iushr C (pc := 38) dJ6_bitCount_0f7a4_38 ?_
  refine ps_iadd C (pc := 39) dJ6_bitCount_0f7a4_39 ?_
  refine ps_istoreL_n C (pc := 40) (lw := fun x4 => [(0, .int x4)]) dJ6_bitCount_0f7a4_40 (by decide) (fun _ => rfl) h (fun x4 h => ?_)
  refine ps_iload_n C (pc := 41) dJ6_bitCount_0f7a4_41 0 rfl ?_
  refine ps_iload_n C (pc := 42) dJ6_bitCount_0f7a4_42 0 rfl ?_
  refine ps_bipush C (pc := 43) (v := 16) dJ6_bitCount_0f7a4_43 (by decide) ?_
  refine ps_iushr C (pc := 45) dJ6_bitCount_0f7a4_45 ?_
  refine ps_iadd C (pc := 46) dJ6_bitCount_0f7a4_46 ?_
  refine ps_istoreL_n C (pc := 47) (lw := fun x5 => [(0, .int x5)]) dJ6_bitCount_0f7a4_47 (by decide) (fun _ => rfl) h (fun x5 h => ?_)
  refine ps_iload_n C (pc := 48) dJ6_bitCount_0f7a4_48 0 rfl ?_
  refine ps_bipush C (pc := 49) (v := 63) dJ6_bitCount_0f7a4_49 (by decide) ?_
  refine ps_iand C (pc := 51) dJ6_bitCount_0f7a4_51 ?_
  obtain rfl := Option.some.inj h
  exact k _ _ dJ6_bitCount_0f7a4_52
def rmJ6_bitCount_0f7a4 : Room := { frames := 0, cells := 0, slots := 0, locals := 0 }
theorem mJ6_bitCount_0f7a4 {l : Launch} {E : ps_E} {σ : ps_S} {a0 : Int32} {r : Int32}  (h : fJ6_bitCount_0f7a4 a0 = some r) : ps_MI l yJ6_bitCount_0f7a4 (ps_wm yJ6_bitCount_0f7a4 cJ6_bitCount_0f7a4 1 (some .int)) rmJ6_bitCount_0f7a4 [.int a0] E σ r σ :=
  ps_metI yJ6_bitCount_0f7a4 rmJ6_bitCount_0f7a4 1 (own := "java/lang/Integer") r (by decide +kernel) rfl (Nat.le_of_ble_eq_true rfl) rfl (fun z e1 e2 e3 e4 e5 C k => by
    subst e5
    exact tJ6_bitCount_0f7a4 C (ps_Zof e1 e3 e4)  h k)
theorem hdJ6_bitCount_0f7a4 : yJ6_bitCount_0f7a4.cls ≠ "java/lang/invoke/MethodHandle" ∧ yJ6_bitCount_0f7a4.cls ≠ "java/lang/invoke/VarHandle" ∧ (parseMethodDescriptor yJ6_bitCount_0f7a4.desc).map (fun d => d.parameters.length) = some 1 := by decide +kernel
def fJ13_bitCount_95d88 (a0 : Int64) : Option (Int32) :=
  (ps_let (a0 - ((a0.toUInt64 >>> ((Int32.toInt64 (1 : Int32)).toUInt64 &&& Int64.toUInt64 63)).toInt64 &&& (6148914691236517205 : Int64))) fun x1 =>
  (ps_let ((x1 &&& (3689348814741910323 : Int64)) + ((x1.toUInt64 >>> ((Int32.toInt64 (2 : Int32)).toUInt64 &&& Int64.toUInt64 63)).toInt64 &&& (3689348814741910323 : Int64))) fun x2 =>
  (ps_let ((x2 + (x2.toUInt64 >>> ((Int32.toInt64 (4 : Int32)).toUInt64 &&& Int64.toUInt64 63)).toInt64) &&& (1085102592571150095 : Int64)) fun x3 =>
  (ps_let (x3 + (x3.toUInt64 >>> ((Int32.toInt64 (8 : Int32)).toUInt64 &&& Int64.toUInt64 63)).toInt64) fun x4 =>
  (ps_let (x4 + (x4.toUInt64 >>> ((Int32.toInt64 (16 : Int32)).toUInt64 &&& Int64.toUInt64 63)).toInt64) fun x5 =>
  (ps_let (x5 + (x5.toUInt64 >>> ((Int32.toInt64 (32 : Int32)).toUInt64 &&& Int64.toUInt64 63)).toInt64) fun x6 =>
  some ((Int64.toInt32 x6) &&& (127 : Int32))))))))
set_option maxHeartbeats 4000000 in
set_option maxRecDepth 100000 in
theorem tJ13_bitCount_95d88 {z : ps_X} (C : ps_C z cJ13_bitCount_95d88 2 "java/lang/Long") (Z : ps_Z z 0 0) {a0 : Int64}  {σ : ps_S} {r : Int32} (h : fJ13_bitCount_95d88 a0 = some r) (k : ps_KI z 2 cJ13_bitCount_95d88 r σ) : ps_at z 2 0 [(0, .long a0)] [] σ := by
  unfold fJ13_bitCount_95d88 at h
  refine ps_lload_n C (pc := 0) dJ13_bitCount_95d88_0 0 rfl ?_
  refine ps_lload_n C (pc := 1) dJ13_bitCount_95d88_1 0 rfl ?_
  refine ps_iconst C (pc := 2) (v := 1) dJ13_bitCount_95d88_2 (by decide) ?_
  refine ps_lushr C (pc := 3) dJ13_bitCount_95d88_3 ?_
  refine ps_ldc2 C (pc := 4) tw_397 dJ13_bitCount_95d88_4 ?_
  refine ps_land C (pc := 7) dJ13_bitCount_95d88_7 ?_
  refine ps_lsub C (pc := 8) dJ13_bitCount_95d88_8 ?_
  refine ps_lstoreL_n C (pc := 9) (lw := fun x1 => [(0, .long x1)]) dJ13_bitCount_95d88_9 (by decide) (fun _ => rfl) h (fun x1 h => ?_)
  refine ps_lload_n C (pc := 10) dJ13_bitCount_95d88_10 0 rfl ?_
  refine ps_ldc2 C (pc := 11) tw_398 dJ13_bitCount_95d88_11 ?_
  refine ps_land C (pc := 14) dJ13_bitCount_95d88_14 ?_
  refine ps_lload_n C (pc := 15) dJ13_bitCount_95d88_15 0 rfl ?_
  refine ps_iconst C (pc := 16) (v := 2) dJ13_bitCount_95d88_16 (by decide) ?_
  refine ps_lushr C (pc := 17) dJ13_bitCount_95d88_17 ?_
  refine ps_ldc2 C (pc := 18) tw_398 dJ13_bitCount_95d88_18 ?_
  refine ps_land C (pc := 21) dJ13_bitCount_95d88_21 ?_
  refine ps_ladd C (pc := 22) dJ13_bitCount_95d88_22 ?_
  refine ps_lstoreL_n C (pc := 23) (lw := fun x2 => [(0, .long x2)]) dJ13_bitCount_95d88_23 (by decide) (fun _ => rfl) h (fun x2 h => ?_)
  refine ps_lload_n C (pc := 24) dJ13_bitCount_95d88_24 0 rfl ?_
  refine ps_lload_n C (pc := 25) dJ13_bitCount_95d88_25 0 rfl ?_
  refine ps_iconst C (pc := 26) (v := 4) dJ13_bitCount_95d88_26 (by decide) ?_
  refine ps_lushr C (pc := 27) dJ13_bitCount_95d88_27 ?_
  refine ps_ladd C (pc := 28) dJ13_bitCount_95d88_28 ?_
  refine ps_ldc2 C (pc := 29) tw_399 dJ13_bitCount_95d88_29 ?_
  refine ps_land C (pc := 32) dJ13_bitCount_95d88_32 ?_
  refine ps_lstoreL_n C (pc := 33) (lw := fun x3 => [(0, .long x3)]) dJ13_bitCount_95d88_33 (by decide) (fun _ => rfl) h (fun x3 h => ?_)
  refine ps_lload_n C (pc := 34) dJ13_bitCount_95d88_34 0 rfl ?_
  refine ps_lload_n C (pc := 35) dJ13_bitCount_95d88_35 0 rfl ?_
  refine ps_bipush C (pc := 36) (v := 8) dJ13_bitCount_95d88_36 (by decide) ?_
  refine ps_lushr C (pc := 38) dJ13_bitCount_95d88_38 ?_
  refine ps_ladd C (pc := 39) dJ13_bitCount_95d88_39 ?_
  refine ps_lstoreL_n C (pc := 40) (lw := fun x4 => [(0, .long x4)]) dJ13_bitCount_95d88_40 (by decide) (fun _ => rfl) h (fun x4 h => ?_)
  refine ps_lload_n C (pc := 41) dJ13_bitCount_95d88_41 0 rfl ?_
  refine ps_lload_n C (pc := 42) dJ13_bitCount_95d88_42 0 rfl ?_
  refine ps_bipush C (pc := 43) (v := 16) dJ13_bitCount_95d88_43 (by decide) ?_
  refine ps_lushr C (pc := 45) dJ13_bitCount_95d88_45 ?_
  refine ps_ladd C (pc := 46) dJ13_bitCount_95d88_46 ?_
  refine ps_lstoreL_n C (pc := 47) (lw := fun x5 => [(0, .long x5)]) dJ13_bitCount_95d88_47 (by decide) (fun _ => rfl) h (fun x5 h => ?_)
  refine ps_lload_n C (pc := 48) dJ13_bitCount_95d88_48 0 rfl ?_
  refine ps_lload_n C (pc := 49) dJ13_bitCount_95d88_49 0 rfl ?_
  refine ps_bipush C (pc := 50) (v := 32) dJ13_bitCount_95d88_50 (by decide) ?_
  refine ps_lushr C (pc := 52) dJ13_bitCount_95d88_52 ?_
  refine ps_ladd C (pc := 53) dJ13_bitCount_95d88_53 ?_
  refine ps_lstoreL_n C (pc := 54) (lw := fun x6 => [(0, .long x6)]) dJ13_bitCount_95d88_54 (by decide) (fun _ => rfl) h (fun x6 h => ?_)
  refine ps_lload_n C (pc := 55) dJ13_bitCount_95d88_55 0 rfl ?_
  refine ps_l2i C (pc := 56) dJ13_bitCount_95d88_56 ?_
  refine ps_bipush C (pc := 57) (v := 127) dJ13_bitCount_95d88_57 (by decide) ?_
  refine ps_iand C (pc := 59) dJ13_bitCount_95d88_59 ?_
  obtain rfl := Option.some.inj h
  exact k _ _ dJ13_bitCount_95d88_60
def rmJ13_bitCount_95d88 : Room := { frames := 0, cells := 0, slots := 0, locals := 0 }
theorem mJ13_bitCount_95d88 {l : Launch} {E : ps_E} {σ : ps_S} {a0 : Int64} {r : Int32}  (h : fJ13_bitCount_95d88 a0 = some r) : ps_MI l yJ13_bitCount_95d88 (ps_wm yJ13_bitCount_95d88 cJ13_bitCount_95d88 2 (some .int)) rmJ13_bitCount_95d88 [.long a0] E σ r σ :=
  ps_metI yJ13_bitCount_95d88 rmJ13_bitCount_95d88 2 (own := "java/lang/Long") r (by decide +kernel) rfl (Nat.le_of_ble_eq_true rfl) rfl (fun z e1 e2 e3 e4 e5 C k => by
    subst e5
    exact tJ13_bitCount_95d88 C (ps_Zof e1 e3 e4)  h k)
theorem hdJ13_bitCount_95d88 : yJ13_bitCount_95d88.cls ≠ "java/lang/invoke/MethodHandle" ∧ yJ13_bitCount_95d88.cls ≠ "java/lang/invoke/VarHandle" ∧ (parseMethodDescriptor yJ13_bitCount_95d88.desc).map (fun d => d.parameters.length) = some 1 := by decide +kernel
def fX4_reduce (a0 : Int64) : Option (Int32) :=
  (ps_let (a0 - a0 / (1000003 : Int64) * (1000003 : Int64)) fun x1 =>
  (if 0 ≤ (lg_cmp x1 (0 : Int64)) then some (Int64.toInt32 x1)
  else some (Int64.toInt32 (x1 + (1000003 : Int64)))))
set_option maxHeartbeats 4000000 in
set_option maxRecDepth 100000 in
theorem tX4_reduce {z : ps_X} (C : ps_C z cX4_reduce 4 "PartSums") (Z : ps_Z z 0 0) {a0 : Int64}  {σ : ps_S} {r : Int32} (h : fX4_reduce a0 = some r) (k : ps_KI z 4 cX4_reduce r σ) : ps_at z 4 0 [(0, .long a0)] [] σ := by
  unfold fX4_reduce at h
  refine ps_lload_n C (pc := 0) dX4_reduce_0 0 rfl ?_
  refine ps_ldc2 C (pc := 1) tw_449 dX4_reduce_1 ?_
  refine ps_lrem C (pc := 4) dX4_reduce_4 (by decide) ?_
  refine ps_lstoreL_n C (pc := 5) (lw := fun x1 => [(2, .long x1), (0, .long a0)]) dX4_reduce_5 (by decide) (fun _ => rfl) h (fun x1 h => ?_)
  refine ps_lload_n C (pc := 6) dX4_reduce_6 0 rfl ?_
  refine ps_lconst C (pc := 7) (v := 0) dX4_reduce_7 (by decide) ?_
  refine ps_lcmp C (pc := 8) dX4_reduce_8 ?_
  refine ps_if_ge C (pc := 9) 20 dX4_reduce_9 (by decide) (fun hc => ?_) (fun hc => ?_)
  · have h := ps_ift hc h
    refine ps_lload_n C (pc := 20) dX4_reduce_20 0 rfl ?_
    refine ps_l2i C (pc := 21) dX4_reduce_21 ?_
    obtain rfl := Option.some.inj h
    exact k _ _ dX4_reduce_22
  · have h := ps_iff hc h
    refine ps_lload_n C (pc := 12) dX4_reduce_12 0 rfl ?_
    refine ps_ldc2 C (pc := 13) tw_449 dX4_reduce_13 ?_
    refine ps_ladd C (pc := 16) dX4_reduce_16 ?_
    refine ps_goto C (pc := 17) 21 dX4_reduce_17 (by decide) ?_
    refine ps_l2i C (pc := 21) dX4_reduce_21 ?_
    obtain rfl := Option.some.inj h
    exact k _ _ dX4_reduce_22
def rmX4_reduce : Room := { frames := 0, cells := 0, slots := 0, locals := 0 }
theorem mX4_reduce {l : Launch} {E : ps_E} {σ : ps_S} {a0 : Int64} {r : Int32}  (h : fX4_reduce a0 = some r) : ps_MI l yX4_reduce (ps_wm yX4_reduce cX4_reduce 4 (some .int)) rmX4_reduce [.long a0] E σ r σ :=
  ps_metI yX4_reduce rmX4_reduce 4 (own := "PartSums") r (by decide +kernel) rfl (Nat.le_of_ble_eq_true rfl) rfl (fun z e1 e2 e3 e4 e5 C k => by
    subst e5
    exact tX4_reduce C (ps_Zof e1 e3 e4)  h k)
theorem hdX4_reduce : yX4_reduce.cls ≠ "java/lang/invoke/MethodHandle" ∧ yX4_reduce.cls ≠ "java/lang/invoke/VarHandle" ∧ (parseMethodDescriptor yX4_reduce.desc).map (fun d => d.parameters.length) = some 1 := by decide +kernel
def pX4_raise_S9 (z : ps_X)  (σ : ps_S) (s : Int64 × Int64 × Int32) : Prop := ps_at z 7 9 [(2, .long s.1), (4, .long s.2.1), (6, .int s.2.2)] [] σ
def qX4_raise_S9 (z : ps_X)  (σ : ps_S) (x : (Int64)) : Prop := match x with | y => ps_at z 7 51 [(2, .long y)] [] σ
def fX4_raise_J31 (a2 : Int64) (a4 : Int64) (a6 : Int32) : Option ((Int64 × Int64 × Int32) ⊕ ((Int64))) :=
  (ps_let ((a4 * a4) - (a4 * a4) / (1000003 : Int64) * (1000003 : Int64)) fun x2 =>
  (ps_let (a6 >>> ((1 : Int32) &&& 31)) fun x3 =>
  some (.inl (a2, x2, x3))))
set_option maxHeartbeats 4000000 in
set_option maxRecDepth 100000 in
theorem tX4_raise_J31 {z : ps_X} (C : ps_C z cX4_raise 7 "PartSums") (Z : ps_Z z 0 0) {a2 : Int64} {a4 : Int64} {a6 : Int32}  {σ : ps_S} {r : (Int64 × Int64 × Int32) ⊕ ((Int64))} (h : fX4_raise_J31 a2 a4 a6 = some r) (k : ps_k (pX4_raise_S9 z σ) (qX4_raise_S9 z σ) r) : ps_at z 7 31 [(2, .long a2), (4, .long a4), (6, .int a6)] [] σ := by
  unfold fX4_raise_J31 at h
  refine ps_lload C (pc := 31) dX4_raise_31 1 rfl ?_
  refine ps_lload C (pc := 33) dX4_raise_33 1 rfl ?_
  refine ps_lmul C (pc := 35) dX4_raise_35 ?_
  refine ps_ldc2 C (pc := 36) tw_449 dX4_raise_36 ?_
  refine ps_lrem C (pc := 39) dX4_raise_39 (by decide) ?_
  refine ps_lstoreL C (pc := 40) (lw := fun x2 => [(4, .long x2), (2, .long a2), (6, .int a6)]) dX4_raise_40 (by decide) (fun _ => rfl) h (fun x2 h => ?_)
  refine ps_iload C (pc := 42) dX4_raise_42 2 rfl ?_
  refine ps_iconst C (pc := 44) (v := 1) dX4_raise_44 (by decide) ?_
  refine ps_ishr C (pc := 45) dX4_raise_45 ?_
  refine ps_istoreL C (pc := 46) (lw := fun x3 => [(6, .int x3), (4, .long x2), (2, .long a2)]) dX4_raise_46 (by decide) (fun _ => rfl) h (fun x3 h => ?_)
  refine ps_goto C (pc := 48) 9 dX4_raise_48 (by decide) ?_
  obtain rfl := Option.some.inj h
  exact ps_sub [2, 1, 0] rfl k
def fX4_raise_S9  (a2 : Int64) (a4 : Int64) (a6 : Int32) : Option ((Int64 × Int64 × Int32) ⊕ ((Int64))) :=
  (if a6 ≤ 0 then some (.inr a2)
  else (if (a6 &&& (1 : Int32)) = (1 : Int32) then (ps_let ((a2 * a4) - (a2 * a4) / (1000003 : Int64) * (1000003 : Int64)) fun x4 =>
  fX4_raise_J31 x4 a4 a6)
  else fX4_raise_J31 a2 a4 a6))
set_option maxHeartbeats 4000000 in
set_option maxRecDepth 100000 in
theorem tX4_raise_S9 {z : ps_X} (C : ps_C z cX4_raise 7 "PartSums") (Z : ps_Z z 0 0)   (σ : ps_S) (s : Int64 × Int64 × Int32) (r : (Int64 × Int64 × Int32) ⊕ ((Int64))) (h : fX4_raise_S9  s.1 s.2.1 s.2.2 = some r) (k : ps_k (pX4_raise_S9 z σ) (qX4_raise_S9 z σ) r) : pX4_raise_S9 z σ s := by
  obtain ⟨a2, a4, a6⟩ := s
  unfold fX4_raise_S9 at h
  unfold pX4_raise_S9
  refine ps_iload C (pc := 9) dX4_raise_9 2 rfl ?_
  refine ps_if_le C (pc := 11) 51 dX4_raise_11 (by decide) (fun hc => ?_) (fun hc => ?_)
  · have h := ps_ift hc h
    obtain rfl := Option.some.inj h
    exact ps_sub [0] rfl k
  · have h := ps_iff hc h
    refine ps_iload C (pc := 14) dX4_raise_14 2 rfl ?_
    refine ps_iconst C (pc := 16) (v := 1) dX4_raise_16 (by decide) ?_
    refine ps_iand C (pc := 17) dX4_raise_17 ?_
    refine ps_iconst C (pc := 18) (v := 1) dX4_raise_18 (by decide) ?_
    refine ps_icmp_ne C (pc := 19) 31 dX4_raise_19 (by decide) (fun hc => ?_) (fun hc => ?_)
    · have h := ps_iff hc h
      exact ps_sub [0, 1, 2] rfl (tX4_raise_J31 C Z  h k)
    · have h := ps_ift hc h
      refine ps_lload_n C (pc := 22) dX4_raise_22 0 rfl ?_
      refine ps_lload C (pc := 23) dX4_raise_23 1 rfl ?_
      refine ps_lmul C (pc := 25) dX4_raise_25 ?_
      refine ps_ldc2 C (pc := 26) tw_449 dX4_raise_26 ?_
      refine ps_lrem C (pc := 29) dX4_raise_29 (by decide) ?_
      refine ps_lstoreL_n C (pc := 30) (lw := fun x4 => [(2, .long x4), (4, .long a4), (6, .int a6)]) dX4_raise_30 (by decide) (fun _ => rfl) h (fun x4 h => ?_)
      exact ps_sub [0, 1, 2] rfl (tX4_raise_J31 C Z  h k)
def fX4_raise (a0 : Int32) (a1 : Int32) : Option (Int32) :=
  (ps_let (Int32.toInt64 a0) fun x1 =>
  ((ps_lp (fun s => fX4_raise_S9  s.1 s.2.1 s.2.2) 100000 ((1 : Int64), x1, a1)).bind fun e5 =>
  some (Int64.toInt32 e5)))
set_option maxHeartbeats 4000000 in
set_option maxRecDepth 100000 in
theorem tX4_raise {z : ps_X} (C : ps_C z cX4_raise 7 "PartSums") (Z : ps_Z z 0 0) {a0 : Int32} {a1 : Int32}  {σ : ps_S} {r : Int32} (h : fX4_raise a0 a1 = some r) (k : ps_KI z 7 cX4_raise r σ) : ps_at z 7 0 [(0, .int a0), (1, .int a1)] [] σ := by
  unfold fX4_raise at h
  refine ps_lconst C (pc := 0) (v := 1) dX4_raise_0 (by decide) ?_
  refine ps_lstore_n C (pc := 1) (lv' := [(2, .long (1 : Int64)), (0, .int a0), (1, .int a1)]) dX4_raise_1 (by decide) rfl ?_
  refine ps_iload_n C (pc := 2) dX4_raise_2 1 rfl ?_
  refine ps_i2l C (pc := 3) dX4_raise_3 ?_
  refine ps_lstoreL C (pc := 4) (lw := fun x1 => [(4, .long x1), (2, .long (1 : Int64)), (0, .int a0), (1, .int a1)]) dX4_raise_4 (by decide) (fun _ => rfl) h (fun x1 h => ?_)
  refine ps_iload_n C (pc := 6) dX4_raise_6 3 rfl ?_
  refine ps_istore C (pc := 7) (lv' := [(6, .int a1), (4, .long x1), (2, .long (1 : Int64)), (0, .int a0), (1, .int a1)]) dX4_raise_7 (by decide) rfl ?_
  obtain ⟨e5, he5, h⟩ := ps_bd h
  refine ps_sub [2, 1, 0] rfl ?_
  refine ps_loop (P := pX4_raise_S9 z σ) (K := qX4_raise_S9 z σ) (fun s r h k => tX4_raise_S9 C Z   σ s r h k) _ _ _ he5 ?_
  unfold qX4_raise_S9
  refine ps_lload_n C (pc := 51) dX4_raise_51 0 rfl ?_
  refine ps_l2i C (pc := 52) dX4_raise_52 ?_
  obtain rfl := Option.some.inj h
  exact k _ _ dX4_raise_53
def rmX4_raise : Room := { frames := 0, cells := 0, slots := 0, locals := 0 }
theorem mX4_raise {l : Launch} {E : ps_E} {σ : ps_S} {a0 : Int32} {a1 : Int32} {r : Int32}  (h : fX4_raise a0 a1 = some r) : ps_MI l yX4_raise (ps_wm yX4_raise cX4_raise 7 (some .int)) rmX4_raise [.int a0, .int a1] E σ r σ :=
  ps_metI yX4_raise rmX4_raise 7 (own := "PartSums") r (by decide +kernel) rfl (Nat.le_of_ble_eq_true rfl) rfl (fun z e1 e2 e3 e4 e5 C k => by
    subst e5
    exact tX4_raise C (ps_Zof e1 e3 e4)  h k)
theorem hdX4_raise : yX4_raise.cls ≠ "java/lang/invoke/MethodHandle" ∧ yX4_raise.cls ≠ "java/lang/invoke/VarHandle" ∧ (parseMethodDescriptor yX4_raise.desc).map (fun d => d.parameters.length) = some 2 := by decide +kernel
def pX4_leastThing_S2 (z : ps_X) (a0 : Int32) (σ : ps_S) (s : Int32) : Prop := ps_at z 2 2 [(0, .int a0), (1, .int s)] [] σ
def qX4_leastThing_S2 (z : ps_X) (a0 : Int32) (σ : ps_S) (x : (Int32) ⊕ (Unit)) : Prop := match x with | .inl y => ps_at z 2 17 [(1, .int y)] [] σ | .inr y => ps_at z 2 25 [] [] σ
def fX4_leastThing_S2 (a0 : Int32) (a1 : Int32) : Option ((Int32) ⊕ ((Int32) ⊕ (Unit))) :=
  (if (8 : Int32) ≤ a1 then some (.inr (.inr ()))
  else (if ((a0 >>> (a1 &&& 31)) &&& (1 : Int32)) = (1 : Int32) then some (.inr (.inl a1))
  else (ps_let (a1 + (1 : Int32)) fun x1 =>
  some (.inl x1))))
set_option maxHeartbeats 4000000 in
set_option maxRecDepth 100000 in
theorem tX4_leastThing_S2 {z : ps_X} (C : ps_C z cX4_leastThing 2 "PartSums") (Z : ps_Z z 0 0) (a0 : Int32)  (σ : ps_S) (s : Int32) (r : (Int32) ⊕ ((Int32) ⊕ (Unit))) (h : fX4_leastThing_S2 a0 s = some r) (k : ps_k (pX4_leastThing_S2 z a0 σ) (qX4_leastThing_S2 z a0 σ) r) : pX4_leastThing_S2 z a0 σ s := by
  generalize s = a1 at h ⊢
  unfold fX4_leastThing_S2 at h
  unfold pX4_leastThing_S2
  refine ps_iload_n C (pc := 2) dX4_leastThing_2 1 rfl ?_
  refine ps_bipush C (pc := 3) (v := 8) dX4_leastThing_3 (by decide) ?_
  refine ps_icmp_ge C (pc := 5) 25 dX4_leastThing_5 (by decide) (fun hc => ?_) (fun hc => ?_)
  · have h := ps_ift hc h
    obtain rfl := Option.some.inj h
    exact ps_sub [] rfl k
  · have h := ps_iff hc h
    refine ps_iload_n C (pc := 8) dX4_leastThing_8 0 rfl ?_
    refine ps_iload_n C (pc := 9) dX4_leastThing_9 1 rfl ?_
    refine ps_ishr C (pc := 10) dX4_leastThing_10 ?_
    refine ps_iconst C (pc := 11) (v := 1) dX4_leastThing_11 (by decide) ?_
    refine ps_iand C (pc := 12) dX4_leastThing_12 ?_
    refine ps_iconst C (pc := 13) (v := 1) dX4_leastThing_13 (by decide) ?_
    refine ps_icmp_ne C (pc := 14) 19 dX4_leastThing_14 (by decide) (fun hc => ?_) (fun hc => ?_)
    · have h := ps_iff hc h
      refine ps_iincL C (pc := 19) (zz := 1) (lw := fun x1 => [(1, .int x1), (0, .int a0)]) dX4_leastThing_19 1 rfl (by decide) (by decide) (fun _ => rfl) h (fun x1 h => ?_)
      refine ps_goto C (pc := 22) 2 dX4_leastThing_22 (by decide) ?_
      obtain rfl := Option.some.inj h
      exact ps_sub [1, 0] rfl k
    · have h := ps_ift hc h
      obtain rfl := Option.some.inj h
      exact ps_sub [1] rfl k
def fX4_leastThing (a0 : Int32) : Option (Int32) :=
  ((ps_lp (fun s => fX4_leastThing_S2 a0 s) 100000 (0 : Int32)).bind fun e2 =>
  match e2 with | .inl y3 => some y3 | .inr y4 => some (0 : Int32))
set_option maxHeartbeats 4000000 in
set_option maxRecDepth 100000 in
theorem tX4_leastThing {z : ps_X} (C : ps_C z cX4_leastThing 2 "PartSums") (Z : ps_Z z 0 0) {a0 : Int32}  {σ : ps_S} {r : Int32} (h : fX4_leastThing a0 = some r) (k : ps_KI z 2 cX4_leastThing r σ) : ps_at z 2 0 [(0, .int a0)] [] σ := by
  unfold fX4_leastThing at h
  refine ps_iconst C (pc := 0) (v := 0) dX4_leastThing_0 (by decide) ?_
  refine ps_istore_n C (pc := 1) (lv' := [(1, .int (0 : Int32)), (0, .int a0)]) dX4_leastThing_1 (by decide) rfl ?_
  obtain ⟨e2, he2, h⟩ := ps_bd h
  refine ps_sub [1, 0] rfl ?_
  refine ps_loop (P := pX4_leastThing_S2 z a0 σ) (K := qX4_leastThing_S2 z a0 σ) (fun s r h k => tX4_leastThing_S2 C Z a0  σ s r h k) _ _ _ he2 ?_
  unfold qX4_leastThing_S2
  rcases e2 with y3 | w_y3
  · refine ps_iload_n C (pc := 17) dX4_leastThing_17 0 rfl ?_
    obtain rfl := Option.some.inj h
    exact k _ _ dX4_leastThing_18
  · generalize w_y3 = y4 at h ⊢
    refine ps_iconst C (pc := 25) (v := 0) dX4_leastThing_25 (by decide) ?_
    obtain rfl := Option.some.inj h
    exact k _ _ dX4_leastThing_26
def rmX4_leastThing : Room := { frames := 0, cells := 0, slots := 0, locals := 0 }
theorem mX4_leastThing {l : Launch} {E : ps_E} {σ : ps_S} {a0 : Int32} {r : Int32}  (h : fX4_leastThing a0 = some r) : ps_MI l yX4_leastThing (ps_wm yX4_leastThing cX4_leastThing 2 (some .int)) rmX4_leastThing [.int a0] E σ r σ :=
  ps_metI yX4_leastThing rmX4_leastThing 2 (own := "PartSums") r (by decide +kernel) rfl (Nat.le_of_ble_eq_true rfl) rfl (fun z e1 e2 e3 e4 e5 C k => by
    subst e5
    exact tX4_leastThing C (ps_Zof e1 e3 e4)  h k)
theorem hdX4_leastThing : yX4_leastThing.cls ≠ "java/lang/invoke/MethodHandle" ∧ yX4_leastThing.cls ≠ "java/lang/invoke/VarHandle" ∧ (parseMethodDescriptor yX4_leastThing.desc).map (fun d => d.parameters.length) = some 1 := by decide +kernel
def fX4_combine (a0 : Int32) (a1 : Int32) (a2 : Int32) : Option (Int32) :=
  (if a2 = (5 : Int32) then ((fX4_reduce ((Int32.toInt64 a0) + (Int32.toInt64 a1))).bind fun q3 =>
  some q3)
  else (if a2 = (6 : Int32) then ((fX4_reduce ((Int32.toInt64 a0) - (Int32.toInt64 a1))).bind fun q2 =>
  some q2)
  else ((fX4_reduce ((Int32.toInt64 a0) * (Int32.toInt64 a1))).bind fun q1 =>
  some q1)))
set_option maxHeartbeats 4000000 in
set_option maxRecDepth 100000 in
theorem tX4_combine {z : ps_X} (C : ps_C z cX4_combine 3 "PartSums") (Z : ps_Z z 1 23) {a0 : Int32} {a1 : Int32} {a2 : Int32}  {σ : ps_S} {r : Int32} (h : fX4_combine a0 a1 a2 = some r) (k : ps_KI z 3 cX4_combine r σ) : ps_at z 3 0 [(0, .int a0), (1, .int a1), (2, .int a2)] [] σ := by
  unfold fX4_combine at h
  refine ps_iload_n C (pc := 0) dX4_combine_0 2 rfl ?_
  refine ps_iconst C (pc := 1) (v := 5) dX4_combine_1 (by decide) ?_
  refine ps_icmp_ne C (pc := 2) 14 dX4_combine_2 (by decide) (fun hc => ?_) (fun hc => ?_)
  · have h := ps_iff hc h
    refine ps_iload_n C (pc := 14) dX4_combine_14 2 rfl ?_
    refine ps_bipush C (pc := 15) (v := 6) dX4_combine_15 (by decide) ?_
    refine ps_icmp_ne C (pc := 17) 29 dX4_combine_17 (by decide) (fun hc => ?_) (fun hc => ?_)
    · have h := ps_iff hc h
      refine ps_iload_n C (pc := 29) dX4_combine_29 0 rfl ?_
      refine ps_i2l C (pc := 30) dX4_combine_30 ?_
      refine ps_iload_n C (pc := 31) dX4_combine_31 1 rfl ?_
      refine ps_i2l C (pc := 32) dX4_combine_32 ?_
      refine ps_lmul C (pc := 33) dX4_combine_33 ?_
      obtain ⟨q1, hq1, h⟩ := ps_bd h
      refine ps_callSI C Z (pc := 34) (As := [.long ((Int32.toInt64 a0) * (Int32.toInt64 a1))]) (mX4_reduce  hq1) tw_446 tw_447 tw_65 tw_448 hdX4_reduce rfl rfl ⟨by decide, by decide⟩ rfl (Nat.le_of_ble_eq_true rfl) dX4_combine_34 rfl ?_
      obtain rfl := Option.some.inj h
      exact k _ _ dX4_combine_37
    · have h := ps_ift hc h
      refine ps_iload_n C (pc := 20) dX4_combine_20 0 rfl ?_
      refine ps_i2l C (pc := 21) dX4_combine_21 ?_
      refine ps_iload_n C (pc := 22) dX4_combine_22 1 rfl ?_
      refine ps_i2l C (pc := 23) dX4_combine_23 ?_
      refine ps_lsub C (pc := 24) dX4_combine_24 ?_
      obtain ⟨q2, hq2, h⟩ := ps_bd h
      refine ps_callSI C Z (pc := 25) (As := [.long ((Int32.toInt64 a0) - (Int32.toInt64 a1))]) (mX4_reduce  hq2) tw_446 tw_447 tw_65 tw_448 hdX4_reduce rfl rfl ⟨by decide, by decide⟩ rfl (Nat.le_of_ble_eq_true rfl) dX4_combine_25 rfl ?_
      obtain rfl := Option.some.inj h
      exact k _ _ dX4_combine_28
  · have h := ps_ift hc h
    refine ps_iload_n C (pc := 5) dX4_combine_5 0 rfl ?_
    refine ps_i2l C (pc := 6) dX4_combine_6 ?_
    refine ps_iload_n C (pc := 7) dX4_combine_7 1 rfl ?_
    refine ps_i2l C (pc := 8) dX4_combine_8 ?_
    refine ps_ladd C (pc := 9) dX4_combine_9 ?_
    obtain ⟨q3, hq3, h⟩ := ps_bd h
    refine ps_callSI C Z (pc := 10) (As := [.long ((Int32.toInt64 a0) + (Int32.toInt64 a1))]) (mX4_reduce  hq3) tw_446 tw_447 tw_65 tw_448 hdX4_reduce rfl rfl ⟨by decide, by decide⟩ rfl (Nat.le_of_ble_eq_true rfl) dX4_combine_10 rfl ?_
    obtain rfl := Option.some.inj h
    exact k _ _ dX4_combine_13
def rmX4_combine : Room := { frames := 1, cells := 0, slots := 0, locals := 23 }
theorem mX4_combine {l : Launch} {E : ps_E} {σ : ps_S} {a0 : Int32} {a1 : Int32} {a2 : Int32} {r : Int32}  (h : fX4_combine a0 a1 a2 = some r) : ps_MI l yX4_combine (ps_wm yX4_combine cX4_combine 3 (some .int)) rmX4_combine [.int a0, .int a1, .int a2] E σ r σ :=
  ps_metI yX4_combine rmX4_combine 3 (own := "PartSums") r (by decide +kernel) rfl (Nat.le_of_ble_eq_true rfl) rfl (fun z e1 e2 e3 e4 e5 C k => by
    subst e5
    exact tX4_combine C (ps_Zof e1 e3 e4)  h k)
theorem hdX4_combine : yX4_combine.cls ≠ "java/lang/invoke/MethodHandle" ∧ yX4_combine.cls ≠ "java/lang/invoke/VarHandle" ∧ (parseMethodDescriptor yX4_combine.desc).map (fun d => d.parameters.length) = some 3 := by decide +kernel
def fX4_nextSeed (a0 : Int32) : Option (Int32) :=
  some ((a0 * (1103515245 : Int32)) + (12345 : Int32))
set_option maxHeartbeats 4000000 in
set_option maxRecDepth 100000 in
theorem tX4_nextSeed {z : ps_X} (C : ps_C z cX4_nextSeed 1 "PartSums") (Z : ps_Z z 0 0) {a0 : Int32}  {σ : ps_S} {r : Int32} (h : fX4_nextSeed a0 = some r) (k : ps_KI z 1 cX4_nextSeed r σ) : ps_at z 1 0 [(0, .int a0)] [] σ := by
  unfold fX4_nextSeed at h
  refine ps_iload_n C (pc := 0) dX4_nextSeed_0 0 rfl ?_
  refine ps_ldcw C (pc := 1) tw_668 dX4_nextSeed_1 ?_
  refine ps_imul C (pc := 4) dX4_nextSeed_4 ?_
  refine ps_sipush C (pc := 5) (v := 12345) dX4_nextSeed_5 (by decide) ?_
  refine ps_iadd C (pc := 8) dX4_nextSeed_8 ?_
  obtain rfl := Option.some.inj h
  exact k _ _ dX4_nextSeed_9
def rmX4_nextSeed : Room := { frames := 0, cells := 0, slots := 0, locals := 0 }
theorem mX4_nextSeed {l : Launch} {E : ps_E} {σ : ps_S} {a0 : Int32} {r : Int32}  (h : fX4_nextSeed a0 = some r) : ps_MI l yX4_nextSeed (ps_wm yX4_nextSeed cX4_nextSeed 1 (some .int)) rmX4_nextSeed [.int a0] E σ r σ :=
  ps_metI yX4_nextSeed rmX4_nextSeed 1 (own := "PartSums") r (by decide +kernel) rfl (Nat.le_of_ble_eq_true rfl) rfl (fun z e1 e2 e3 e4 e5 C k => by
    subst e5
    exact tX4_nextSeed C (ps_Zof e1 e3 e4)  h k)
theorem hdX4_nextSeed : yX4_nextSeed.cls ≠ "java/lang/invoke/MethodHandle" ∧ yX4_nextSeed.cls ≠ "java/lang/invoke/VarHandle" ∧ (parseMethodDescriptor yX4_nextSeed.desc).map (fun d => d.parameters.length) = some 1 := by decide +kernel
def fX4_draw (a0 : Int32) (a1 : Int32) : Option (Int32) :=
  (if a1 ≤ 0 then some (0 : Int32)
  else (ps_cz a1 (some ((a0.toUInt32 >>> (Int32.toUInt32 (8 : Int32) &&& Int32.toUInt32 31)).toInt32 - (a0.toUInt32 >>> (Int32.toUInt32 (8 : Int32) &&& Int32.toUInt32 31)).toInt32 / a1 * a1))))
set_option maxHeartbeats 4000000 in
set_option maxRecDepth 100000 in
theorem tX4_draw {z : ps_X} (C : ps_C z cX4_draw 2 "PartSums") (Z : ps_Z z 0 0) {a0 : Int32} {a1 : Int32}  {σ : ps_S} {r : Int32} (h : fX4_draw a0 a1 = some r) (k : ps_KI z 2 cX4_draw r σ) : ps_at z 2 0 [(0, .int a0), (1, .int a1)] [] σ := by
  unfold fX4_draw at h
  refine ps_iload_n C (pc := 0) dX4_draw_0 1 rfl ?_
  refine ps_if_le C (pc := 1) 13 dX4_draw_1 (by decide) (fun hc => ?_) (fun hc => ?_)
  · have h := ps_ift hc h
    refine ps_iconst C (pc := 13) (v := 0) dX4_draw_13 (by decide) ?_
    obtain rfl := Option.some.inj h
    exact k _ _ dX4_draw_14
  · have h := ps_iff hc h
    refine ps_iload_n C (pc := 4) dX4_draw_4 0 rfl ?_
    refine ps_bipush C (pc := 5) (v := 8) dX4_draw_5 (by decide) ?_
    refine ps_iushr C (pc := 7) dX4_draw_7 ?_
    refine ps_iload_n C (pc := 8) dX4_draw_8 1 rfl ?_
    obtain ⟨hz1, h⟩ := ps_cz_s h
    refine ps_irem C (pc := 9) dX4_draw_9 hz1 ?_
    refine ps_goto C (pc := 10) 14 dX4_draw_10 (by decide) ?_
    obtain rfl := Option.some.inj h
    exact k _ _ dX4_draw_14
def rmX4_draw : Room := { frames := 0, cells := 0, slots := 0, locals := 0 }
theorem mX4_draw {l : Launch} {E : ps_E} {σ : ps_S} {a0 : Int32} {a1 : Int32} {r : Int32}  (h : fX4_draw a0 a1 = some r) : ps_MI l yX4_draw (ps_wm yX4_draw cX4_draw 2 (some .int)) rmX4_draw [.int a0, .int a1] E σ r σ :=
  ps_metI yX4_draw rmX4_draw 2 (own := "PartSums") r (by decide +kernel) rfl (Nat.le_of_ble_eq_true rfl) rfl (fun z e1 e2 e3 e4 e5 C k => by
    subst e5
    exact tX4_draw C (ps_Zof e1 e3 e4)  h k)
theorem hdX4_draw : yX4_draw.cls ≠ "java/lang/invoke/MethodHandle" ∧ yX4_draw.cls ≠ "java/lang/invoke/VarHandle" ∧ (parseMethodDescriptor yX4_draw.desc).map (fun d => d.parameters.length) = some 2 := by decide +kernel
def fX4_turnTwo_J88 (k0 : Nat) (a1 : Int32) (a2 : Int32) (a5 : Int64) (a7 : Int64) (u0 : Int64) (σ : ps_S) : Option (ps_S) :=
  ((fX4_reduce ((a5 + a7) * u0)).bind fun q5 =>
  (ps_ck a1 (ps_ln k0) ((ps_let (ps_ui σ k0 (Int32.toNatClampNeg a1) q5) fun σ7 =>
  ((fX4_reduce ((a5 - a7) * u0)).bind fun q8 =>
  (ps_ck a2 (ps_ln k0) ((ps_let (ps_ui σ7 k0 (Int32.toNatClampNeg a2) q8) fun σ10 =>
  some σ10))))))))
set_option maxHeartbeats 4000000 in
set_option maxRecDepth 100000 in
theorem tX4_turnTwo_J88 {z : ps_X} (C : ps_C z cX4_turnTwo 11 "PartSums") (Z : ps_Z z 1 23) {k0 : Nat} {a1 : Int32} {a2 : Int32} {a5 : Int64} {a7 : Int64} {u0 : Int64} {σ : ps_S} (hk0 : ps_kd k0 = 1) {r : ps_S} (h : fX4_turnTwo_J88 k0 a1 a2 a5 a7 u0 σ = some r) (k : ps_KV z 11 cX4_turnTwo r) : ps_at z 11 88 [(0, .ref (z_ad z k0)), (1, .int a1), (2, .int a2), (5, .long a5), (7, .long a7)] [.long u0] σ := by
  unfold fX4_turnTwo_J88 at h
  refine ps_lstore C (pc := 88) (lv' := [(9, .long u0), (0, .ref (z_ad z k0)), (1, .int a1), (2, .int a2), (5, .long a5), (7, .long a7)]) dX4_turnTwo_88 (by decide) rfl ?_
  refine ps_aload_n C (pc := 90) dX4_turnTwo_90 1 rfl ?_
  refine ps_iload_n C (pc := 91) dX4_turnTwo_91 2 rfl ?_
  refine ps_lload C (pc := 92) dX4_turnTwo_92 4 rfl ?_
  refine ps_lload C (pc := 94) dX4_turnTwo_94 5 rfl ?_
  refine ps_ladd C (pc := 96) dX4_turnTwo_96 ?_
  refine ps_lload C (pc := 97) dX4_turnTwo_97 0 rfl ?_
  refine ps_lmul C (pc := 99) dX4_turnTwo_99 ?_
  obtain ⟨q5, hq5, h⟩ := ps_bd h
  refine ps_callSI C Z (pc := 100) (As := [.long ((a5 + a7) * u0)]) (mX4_reduce  hq5) tw_446 tw_447 tw_65 tw_448 hdX4_reduce rfl rfl ⟨by decide, by decide⟩ rfl (Nat.le_of_ble_eq_true rfl) dX4_turnTwo_100 rfl ?_
  obtain ⟨hi6, h⟩ := ps_ck_s h
  refine ps_iastL C (pc := 103) k0 hk0 rfl hi6 dX4_turnTwo_103 h (fun σ7 h => ?_)
  refine ps_aload_n C (pc := 104) dX4_turnTwo_104 1 rfl ?_
  refine ps_iload_n C (pc := 105) dX4_turnTwo_105 3 rfl ?_
  refine ps_lload C (pc := 106) dX4_turnTwo_106 4 rfl ?_
  refine ps_lload C (pc := 108) dX4_turnTwo_108 5 rfl ?_
  refine ps_lsub C (pc := 110) dX4_turnTwo_110 ?_
  refine ps_lload C (pc := 111) dX4_turnTwo_111 0 rfl ?_
  refine ps_lmul C (pc := 113) dX4_turnTwo_113 ?_
  obtain ⟨q8, hq8, h⟩ := ps_bd h
  refine ps_callSI C Z (pc := 114) (As := [.long ((a5 - a7) * u0)]) (mX4_reduce  hq8) tw_446 tw_447 tw_65 tw_448 hdX4_reduce rfl rfl ⟨by decide, by decide⟩ rfl (Nat.le_of_ble_eq_true rfl) dX4_turnTwo_114 rfl ?_
  obtain ⟨hi9, h⟩ := ps_ck_s h
  refine ps_iastL C (pc := 117) k0 hk0 rfl hi9 dX4_turnTwo_117 h (fun σ10 h => ?_)
  obtain rfl := Option.some.inj h
  exact k _ _ dX4_turnTwo_118
def fX4_turnTwo_J69 (u0 : Int64) (u1 : Int32) (u2 : Nat) (σ : ps_S) : Option (ps_S) :=
  ((fX4_reduce u0).bind fun q11 =>
  (ps_ck u1 (ps_ln u2) ((ps_let (ps_ui σ u2 (Int32.toNatClampNeg u1) q11) fun σ13 =>
  some σ13))))
set_option maxHeartbeats 4000000 in
set_option maxRecDepth 100000 in
theorem tX4_turnTwo_J69 {z : ps_X} (C : ps_C z cX4_turnTwo 11 "PartSums") (Z : ps_Z z 1 23) {u0 : Int64} {u1 : Int32} {u2 : Nat} {σ : ps_S} (hu2 : ps_kd u2 = 1) {r : ps_S} (h : fX4_turnTwo_J69 u0 u1 u2 σ = some r) (k : ps_KV z 11 cX4_turnTwo r) : ps_at z 11 69 [] [.long u0, .int u1, .ref (z_ad z u2)] σ := by
  unfold fX4_turnTwo_J69 at h
  obtain ⟨q11, hq11, h⟩ := ps_bd h
  refine ps_callSI C Z (pc := 69) (As := [.long u0]) (mX4_reduce  hq11) tw_446 tw_447 tw_65 tw_448 hdX4_reduce rfl rfl ⟨by decide, by decide⟩ rfl (Nat.le_of_ble_eq_true rfl) dX4_turnTwo_69 rfl ?_
  obtain ⟨hi12, h⟩ := ps_ck_s h
  refine ps_iastL C (pc := 72) u2 hu2 rfl hi12 dX4_turnTwo_72 h (fun σ13 h => ?_)
  refine ps_goto C (pc := 73) 118 dX4_turnTwo_73 (by decide) ?_
  obtain rfl := Option.some.inj h
  exact k _ _ dX4_turnTwo_118
def fX4_turnTwo_J37 (u0 : Int64) (u1 : Int32) (u2 : Nat) (σ : ps_S) : Option (ps_S) :=
  ((fX4_reduce u0).bind fun q14 =>
  (ps_ck u1 (ps_ln u2) ((ps_let (ps_ui σ u2 (Int32.toNatClampNeg u1) q14) fun σ16 =>
  some σ16))))
set_option maxHeartbeats 4000000 in
set_option maxRecDepth 100000 in
theorem tX4_turnTwo_J37 {z : ps_X} (C : ps_C z cX4_turnTwo 11 "PartSums") (Z : ps_Z z 1 23) {u0 : Int64} {u1 : Int32} {u2 : Nat} {σ : ps_S} (hu2 : ps_kd u2 = 1) {r : ps_S} (h : fX4_turnTwo_J37 u0 u1 u2 σ = some r) (k : ps_KV z 11 cX4_turnTwo r) : ps_at z 11 37 [] [.long u0, .int u1, .ref (z_ad z u2)] σ := by
  unfold fX4_turnTwo_J37 at h
  obtain ⟨q14, hq14, h⟩ := ps_bd h
  refine ps_callSI C Z (pc := 37) (As := [.long u0]) (mX4_reduce  hq14) tw_446 tw_447 tw_65 tw_448 hdX4_reduce rfl rfl ⟨by decide, by decide⟩ rfl (Nat.le_of_ble_eq_true rfl) dX4_turnTwo_37 rfl ?_
  obtain ⟨hi15, h⟩ := ps_ck_s h
  refine ps_iastL C (pc := 40) u2 hu2 rfl hi15 dX4_turnTwo_40 h (fun σ16 h => ?_)
  refine ps_goto C (pc := 41) 118 dX4_turnTwo_41 (by decide) ?_
  obtain rfl := Option.some.inj h
  exact k _ _ dX4_turnTwo_118
def fX4_turnTwo (k0 : Nat) (a1 : Int32) (a2 : Int32) (a3 : Int32) (a4 : Int32) (σ : ps_S) : Option (ps_S) :=
  (ps_ck a1 (ps_ln k0) ((ps_let (Int32.toInt64 (σ.1 k0 (Int32.toNatClampNeg a1))) fun x2 =>
  (ps_ck a2 (ps_ln k0) ((ps_let (Int32.toInt64 (σ.1 k0 (Int32.toNatClampNeg a2))) fun x4 =>
  (if a3 = (1 : Int32) then (if a4 = 0 then fX4_turnTwo_J37 (x4 + x2) a2 k0 σ
  else fX4_turnTwo_J37 (x4 - x2) a2 k0 σ)
  else (if a3 = (2 : Int32) then (if a4 = 0 then fX4_turnTwo_J69 (x2 + x4) a1 k0 σ
  else fX4_turnTwo_J69 (x2 - x4) a1 k0 σ)
  else (if a4 = 0 then fX4_turnTwo_J88 k0 a1 a2 x2 x4 (1 : Int64) σ
  else fX4_turnTwo_J88 k0 a1 a2 x2 x4 (500002 : Int64) σ)))))))))
set_option maxHeartbeats 4000000 in
set_option maxRecDepth 100000 in
theorem tX4_turnTwo {z : ps_X} (C : ps_C z cX4_turnTwo 11 "PartSums") (Z : ps_Z z 1 23) {k0 : Nat} {a1 : Int32} {a2 : Int32} {a3 : Int32} {a4 : Int32} {σ : ps_S} (hk0 : ps_kd k0 = 1) {r : ps_S} (h : fX4_turnTwo k0 a1 a2 a3 a4 σ = some r) (k : ps_KV z 11 cX4_turnTwo r) : ps_at z 11 0 [(0, .ref (z_ad z k0)), (1, .int a1), (2, .int a2), (3, .int a3), (4, .int a4)] [] σ := by
  unfold fX4_turnTwo at h
  refine ps_aload_n C (pc := 0) dX4_turnTwo_0 0 rfl ?_
  refine ps_iload_n C (pc := 1) dX4_turnTwo_1 1 rfl ?_
  obtain ⟨hi1, h⟩ := ps_ck_s h
  refine ps_iald C (pc := 2) k0 hk0 rfl hi1 dX4_turnTwo_2 ?_
  refine ps_i2l C (pc := 3) dX4_turnTwo_3 ?_
  refine ps_lstoreL C (pc := 4) (lw := fun x2 => [(5, .long x2), (0, .ref (z_ad z k0)), (1, .int a1), (2, .int a2), (3, .int a3), (4, .int a4)]) dX4_turnTwo_4 (by decide) (fun _ => rfl) h (fun x2 h => ?_)
  refine ps_aload_n C (pc := 6) dX4_turnTwo_6 1 rfl ?_
  refine ps_iload_n C (pc := 7) dX4_turnTwo_7 3 rfl ?_
  obtain ⟨hi3, h⟩ := ps_ck_s h
  refine ps_iald C (pc := 8) k0 hk0 rfl hi3 dX4_turnTwo_8 ?_
  refine ps_i2l C (pc := 9) dX4_turnTwo_9 ?_
  refine ps_lstoreL C (pc := 10) (lw := fun x4 => [(7, .long x4), (5, .long x2), (0, .ref (z_ad z k0)), (1, .int a1), (2, .int a2), (3, .int a3), (4, .int a4)]) dX4_turnTwo_10 (by decide) (fun _ => rfl) h (fun x4 h => ?_)
  refine ps_iload_n C (pc := 12) dX4_turnTwo_12 5 rfl ?_
  refine ps_iconst C (pc := 13) (v := 1) dX4_turnTwo_13 (by decide) ?_
  refine ps_icmp_ne C (pc := 14) 44 dX4_turnTwo_14 (by decide) (fun hc => ?_) (fun hc => ?_)
  · have h := ps_iff hc h
    refine ps_iload_n C (pc := 44) dX4_turnTwo_44 5 rfl ?_
    refine ps_iconst C (pc := 45) (v := 2) dX4_turnTwo_45 (by decide) ?_
    refine ps_icmp_ne C (pc := 46) 76 dX4_turnTwo_46 (by decide) (fun hc => ?_) (fun hc => ?_)
    · have h := ps_iff hc h
      refine ps_iload C (pc := 76) dX4_turnTwo_76 6 rfl ?_
      refine ps_if_eq C (pc := 78) 87 dX4_turnTwo_78 (by decide) (fun hc => ?_) (fun hc => ?_)
      · have h := ps_ift hc h
        refine ps_lconst C (pc := 87) (v := 1) dX4_turnTwo_87 (by decide) ?_
        exact ps_sub [2, 3, 4, 1, 0] rfl (tX4_turnTwo_J88 C Z hk0 h k)
      · have h := ps_iff hc h
        refine ps_ldc2 C (pc := 81) tw_492 dX4_turnTwo_81 ?_
        refine ps_goto C (pc := 84) 88 dX4_turnTwo_84 (by decide) ?_
        exact ps_sub [2, 3, 4, 1, 0] rfl (tX4_turnTwo_J88 C Z hk0 h k)
    · have h := ps_ift hc h
      refine ps_aload_n C (pc := 49) dX4_turnTwo_49 2 rfl ?_
      refine ps_iload_n C (pc := 50) dX4_turnTwo_50 3 rfl ?_
      refine ps_iload C (pc := 51) dX4_turnTwo_51 6 rfl ?_
      refine ps_if_eq C (pc := 53) 64 dX4_turnTwo_53 (by decide) (fun hc => ?_) (fun hc => ?_)
      · have h := ps_ift hc h
        refine ps_lload C (pc := 64) dX4_turnTwo_64 1 rfl ?_
        refine ps_lload C (pc := 66) dX4_turnTwo_66 0 rfl ?_
        refine ps_ladd C (pc := 68) dX4_turnTwo_68 ?_
        exact ps_sub [] rfl (tX4_turnTwo_J69 C Z hk0 h k)
      · have h := ps_iff hc h
        refine ps_lload C (pc := 56) dX4_turnTwo_56 1 rfl ?_
        refine ps_lload C (pc := 58) dX4_turnTwo_58 0 rfl ?_
        refine ps_lsub C (pc := 60) dX4_turnTwo_60 ?_
        refine ps_goto C (pc := 61) 69 dX4_turnTwo_61 (by decide) ?_
        exact ps_sub [] rfl (tX4_turnTwo_J69 C Z hk0 h k)
  · have h := ps_ift hc h
    refine ps_aload_n C (pc := 17) dX4_turnTwo_17 2 rfl ?_
    refine ps_iload_n C (pc := 18) dX4_turnTwo_18 4 rfl ?_
    refine ps_iload C (pc := 19) dX4_turnTwo_19 6 rfl ?_
    refine ps_if_eq C (pc := 21) 32 dX4_turnTwo_21 (by decide) (fun hc => ?_) (fun hc => ?_)
    · have h := ps_ift hc h
      refine ps_lload C (pc := 32) dX4_turnTwo_32 0 rfl ?_
      refine ps_lload C (pc := 34) dX4_turnTwo_34 1 rfl ?_
      refine ps_ladd C (pc := 36) dX4_turnTwo_36 ?_
      exact ps_sub [] rfl (tX4_turnTwo_J37 C Z hk0 h k)
    · have h := ps_iff hc h
      refine ps_lload C (pc := 24) dX4_turnTwo_24 0 rfl ?_
      refine ps_lload C (pc := 26) dX4_turnTwo_26 1 rfl ?_
      refine ps_lsub C (pc := 28) dX4_turnTwo_28 ?_
      refine ps_goto C (pc := 29) 37 dX4_turnTwo_29 (by decide) ?_
      exact ps_sub [] rfl (tX4_turnTwo_J37 C Z hk0 h k)
def rmX4_turnTwo : Room := { frames := 1, cells := 0, slots := 0, locals := 23 }
theorem mX4_turnTwo {l : Launch} {E : ps_E} {σ : ps_S} {k0 : Nat} {a1 : Int32} {a2 : Int32} {a3 : Int32} {a4 : Int32} {r : ps_S} (hk0 : ps_kd k0 = 1) (h : fX4_turnTwo k0 a1 a2 a3 a4 σ = some r) : ps_MV l yX4_turnTwo (ps_wm yX4_turnTwo cX4_turnTwo 11 none) rmX4_turnTwo [.ref (e_ad E k0), .int a1, .int a2, .int a3, .int a4] E σ r :=
  ps_metV yX4_turnTwo rmX4_turnTwo 11 (own := "PartSums")  (by decide +kernel) rfl (Nat.le_of_ble_eq_true rfl) rfl (fun z e1 e2 e3 e4 e5 C k => by
    subst e5
    exact tX4_turnTwo C (ps_Zof e1 e3 e4) hk0 h k)
theorem hdX4_turnTwo : yX4_turnTwo.cls ≠ "java/lang/invoke/MethodHandle" ∧ yX4_turnTwo.cls ≠ "java/lang/invoke/VarHandle" ∧ (parseMethodDescriptor yX4_turnTwo.desc).map (fun d => d.parameters.length) = some 5 := by decide +kernel
def pX4_transform_S19 (z : ps_X) (k0 : Nat) (a1 : Int32) (a2 : Int32) (a3 : Int32) (a4 : Int32) (s : Int32 × ps_S) : Prop := ps_at z 8 19 [(0, .ref (z_ad z k0)), (1, .int a1), (2, .int a2), (3, .int a3), (4, .int a4), (5, .int s.1)] [] s.2
def qX4_transform_S19 (z : ps_X) (k0 : Nat) (a1 : Int32) (a2 : Int32) (a3 : Int32) (a4 : Int32) (x : (ps_S)) : Prop := match x with | y => ps_at z 8 74 [] [] y
def pX4_transform_S34 (z : ps_X) (k0 : Nat) (a1 : Int32) (a2 : Int32) (a3 : Int32) (a4 : Int32) (a5 : Int32) (a6 : Int32) (s : Int32 × ps_S) : Prop := ps_at z 8 34 [(0, .ref (z_ad z k0)), (1, .int a1), (2, .int a2), (3, .int a3), (4, .int a4), (5, .int a5), (6, .int a6), (7, .int s.1)] [] s.2
def qX4_transform_S34 (z : ps_X) (k0 : Nat) (a1 : Int32) (a2 : Int32) (a3 : Int32) (a4 : Int32) (a5 : Int32) (a6 : Int32) (x : (ps_S)) : Prop := match x with | y => ps_at z 8 68 [(0, .ref (z_ad z k0)), (1, .int a1), (2, .int a2), (3, .int a3), (4, .int a4), (5, .int a5)] [] y
def fX4_transform_J62 (k0 : Nat) (a1 : Int32) (a2 : Int32) (a3 : Int32) (a4 : Int32) (a5 : Int32) (a6 : Int32) (a7 : Int32) (σ : ps_S) : Option ((Int32 × ps_S) ⊕ ((ps_S))) :=
  (ps_let (a7 + (1 : Int32)) fun x3 =>
  some (.inl (x3, σ)))
set_option maxHeartbeats 4000000 in
set_option maxRecDepth 100000 in
theorem tX4_transform_J62 {z : ps_X} (C : ps_C z cX4_transform 8 "PartSums") (Z : ps_Z z 2 53) {k0 : Nat} {a1 : Int32} {a2 : Int32} {a3 : Int32} {a4 : Int32} {a5 : Int32} {a6 : Int32} {a7 : Int32} {σ : ps_S} (hk0 : ps_kd k0 = 1) {r : (Int32 × ps_S) ⊕ ((ps_S))} (h : fX4_transform_J62 k0 a1 a2 a3 a4 a5 a6 a7 σ = some r) (k : ps_k (pX4_transform_S34 z k0 a1 a2 a3 a4 a5 a6) (qX4_transform_S34 z k0 a1 a2 a3 a4 a5 a6) r) : ps_at z 8 62 [(0, .ref (z_ad z k0)), (1, .int a1), (2, .int a2), (3, .int a3), (4, .int a4), (5, .int a5), (6, .int a6), (7, .int a7)] [] σ := by
  unfold fX4_transform_J62 at h
  refine ps_iincL C (pc := 62) (zz := 1) (lw := fun x3 => [(7, .int x3), (0, .ref (z_ad z k0)), (1, .int a1), (2, .int a2), (3, .int a3), (4, .int a4), (5, .int a5), (6, .int a6)]) dX4_transform_62 7 rfl (by decide) (by decide) (fun _ => rfl) h (fun x3 h => ?_)
  refine ps_goto C (pc := 65) 34 dX4_transform_65 (by decide) ?_
  obtain rfl := Option.some.inj h
  exact ps_sub [1, 2, 3, 4, 5, 6, 7, 0] rfl k
def fX4_transform_S34 (k0 : Nat) (a1 : Int32) (a2 : Int32) (a3 : Int32) (a4 : Int32) (a5 : Int32) (a6 : Int32) (a7 : Int32) (σ : ps_S) : Option ((Int32 × ps_S) ⊕ ((ps_S))) :=
  (if a4 ≤ a7 then some (.inr σ)
  else (if (a7 &&& a6) = 0 then ((fX4_turnTwo k0 a7 (a7 ||| a6) a2 a3 σ).bind fun q4 =>
  fX4_transform_J62 k0 a1 a2 a3 a4 a5 a6 a7 q4)
  else fX4_transform_J62 k0 a1 a2 a3 a4 a5 a6 a7 σ))
set_option maxHeartbeats 4000000 in
set_option maxRecDepth 100000 in
theorem tX4_transform_S34 {z : ps_X} (C : ps_C z cX4_transform 8 "PartSums") (Z : ps_Z z 2 53) (k0 : Nat) (a1 : Int32) (a2 : Int32) (a3 : Int32) (a4 : Int32) (a5 : Int32) (a6 : Int32) (hk0 : ps_kd k0 = 1) (s : Int32 × ps_S) (r : (Int32 × ps_S) ⊕ ((ps_S))) (h : fX4_transform_S34 k0 a1 a2 a3 a4 a5 a6 s.1 s.2 = some r) (k : ps_k (pX4_transform_S34 z k0 a1 a2 a3 a4 a5 a6) (qX4_transform_S34 z k0 a1 a2 a3 a4 a5 a6) r) : pX4_transform_S34 z k0 a1 a2 a3 a4 a5 a6 s := by
  obtain ⟨a7, σ⟩ := s
  unfold fX4_transform_S34 at h
  unfold pX4_transform_S34
  refine ps_iload C (pc := 34) dX4_transform_34 7 rfl ?_
  refine ps_iload C (pc := 36) dX4_transform_36 4 rfl ?_
  refine ps_icmp_ge C (pc := 38) 68 dX4_transform_38 (by decide) (fun hc => ?_) (fun hc => ?_)
  · have h := ps_ift hc h
    obtain rfl := Option.some.inj h
    exact ps_sub [0, 1, 2, 3, 4, 5] rfl k
  · have h := ps_iff hc h
    refine ps_iload C (pc := 41) dX4_transform_41 7 rfl ?_
    refine ps_iload C (pc := 43) dX4_transform_43 6 rfl ?_
    refine ps_iand C (pc := 45) dX4_transform_45 ?_
    refine ps_if_ne C (pc := 46) 62 dX4_transform_46 (by decide) (fun hc => ?_) (fun hc => ?_)
    · have h := ps_iff hc h
      exact ps_sub [0, 1, 2, 3, 4, 5, 6, 7] rfl (tX4_transform_J62 C Z hk0 h k)
    · have h := ps_ift hc h
      refine ps_aload_n C (pc := 49) dX4_transform_49 0 rfl ?_
      refine ps_iload C (pc := 50) dX4_transform_50 7 rfl ?_
      refine ps_iload C (pc := 52) dX4_transform_52 7 rfl ?_
      refine ps_iload C (pc := 54) dX4_transform_54 6 rfl ?_
      refine ps_ior C (pc := 56) dX4_transform_56 ?_
      refine ps_iload_n C (pc := 57) dX4_transform_57 2 rfl ?_
      refine ps_iload_n C (pc := 58) dX4_transform_58 3 rfl ?_
      obtain ⟨q4, hq4, h⟩ := ps_bd h
      refine ps_callSV C Z (pc := 59) (As := [.ref (z_ad z k0), .int a7, .int (a7 ||| a6), .int a2, .int a3]) (mX4_turnTwo hk0 hq4) tw_489 tw_490 tw_65 tw_491 hdX4_turnTwo rfl rfl ⟨by decide, by decide⟩ rfl (Nat.le_of_ble_eq_true rfl) dX4_transform_59 rfl ?_
      exact ps_sub [0, 1, 2, 3, 4, 5, 6, 7] rfl (tX4_transform_J62 C Z hk0 h k)
def fX4_transform_S19 (k0 : Nat) (a1 : Int32) (a2 : Int32) (a3 : Int32) (a4 : Int32) (a5 : Int32) (σ : ps_S) : Option ((Int32 × ps_S) ⊕ ((ps_S))) :=
  (if a1 ≤ a5 then some (.inr σ)
  else (ps_let ((1 : Int32) <<< (a5 &&& 31)) fun x2 =>
  ((ps_lp (fun s => fX4_transform_S34 k0 a1 a2 a3 a4 a5 x2 s.1 s.2) 100000 ((0 : Int32), σ)).bind fun e5 =>
  (ps_let (a5 + (1 : Int32)) fun x6 =>
  some (.inl (x6, e5))))))
set_option maxHeartbeats 4000000 in
set_option maxRecDepth 100000 in
theorem tX4_transform_S19 {z : ps_X} (C : ps_C z cX4_transform 8 "PartSums") (Z : ps_Z z 2 53) (k0 : Nat) (a1 : Int32) (a2 : Int32) (a3 : Int32) (a4 : Int32) (hk0 : ps_kd k0 = 1) (s : Int32 × ps_S) (r : (Int32 × ps_S) ⊕ ((ps_S))) (h : fX4_transform_S19 k0 a1 a2 a3 a4 s.1 s.2 = some r) (k : ps_k (pX4_transform_S19 z k0 a1 a2 a3 a4) (qX4_transform_S19 z k0 a1 a2 a3 a4) r) : pX4_transform_S19 z k0 a1 a2 a3 a4 s := by
  obtain ⟨a5, σ⟩ := s
  unfold fX4_transform_S19 at h
  unfold pX4_transform_S19
  refine ps_iload C (pc := 19) dX4_transform_19 5 rfl ?_
  refine ps_iload_n C (pc := 21) dX4_transform_21 1 rfl ?_
  refine ps_icmp_ge C (pc := 22) 74 dX4_transform_22 (by decide) (fun hc => ?_) (fun hc => ?_)
  · have h := ps_ift hc h
    obtain rfl := Option.some.inj h
    exact ps_sub [] rfl k
  · have h := ps_iff hc h
    refine ps_iconst C (pc := 25) (v := 1) dX4_transform_25 (by decide) ?_
    refine ps_iload C (pc := 26) dX4_transform_26 5 rfl ?_
    refine ps_ishl C (pc := 28) dX4_transform_28 ?_
    refine ps_istoreL C (pc := 29) (lw := fun x2 => [(6, .int x2), (0, .ref (z_ad z k0)), (1, .int a1), (2, .int a2), (3, .int a3), (4, .int a4), (5, .int a5)]) dX4_transform_29 (by decide) (fun _ => rfl) h (fun x2 h => ?_)
    refine ps_iconst C (pc := 31) (v := 0) dX4_transform_31 (by decide) ?_
    refine ps_istore C (pc := 32) (lv' := [(7, .int (0 : Int32)), (6, .int x2), (0, .ref (z_ad z k0)), (1, .int a1), (2, .int a2), (3, .int a3), (4, .int a4), (5, .int a5)]) dX4_transform_32 (by decide) rfl ?_
    obtain ⟨e5, he5, h⟩ := ps_bd h
    refine ps_sub [2, 3, 4, 5, 6, 7, 1, 0] rfl ?_
    refine ps_loop (P := pX4_transform_S34 z k0 a1 a2 a3 a4 a5 x2) (K := qX4_transform_S34 z k0 a1 a2 a3 a4 a5 x2) (fun s r h k => tX4_transform_S34 C Z k0 a1 a2 a3 a4 a5 x2 hk0 s r h k) _ _ _ he5 ?_
    unfold qX4_transform_S34
    refine ps_iincL C (pc := 68) (zz := 1) (lw := fun x6 => [(5, .int x6), (0, .ref (z_ad z k0)), (1, .int a1), (2, .int a2), (3, .int a3), (4, .int a4)]) dX4_transform_68 5 rfl (by decide) (by decide) (fun _ => rfl) h (fun x6 h => ?_)
    refine ps_goto C (pc := 71) 19 dX4_transform_71 (by decide) ?_
    obtain rfl := Option.some.inj h
    exact ps_sub [1, 2, 3, 4, 5, 0] rfl k
def fX4_transform (k0 : Nat) (a1 : Int32) (a2 : Int32) (a3 : Int32) (σ : ps_S) : Option (ps_S) :=
  (if a2 < (1 : Int32) then some σ
  else (if a2 ≤ (3 : Int32) then (ps_let ((1 : Int32) <<< (a1 &&& 31)) fun x1 =>
  ((ps_lp (fun s => fX4_transform_S19 k0 a1 a2 a3 x1 s.1 s.2) 100000 ((0 : Int32), σ)).bind fun e7 =>
  some e7))
  else some σ))
set_option maxHeartbeats 4000000 in
set_option maxRecDepth 100000 in
theorem tX4_transform {z : ps_X} (C : ps_C z cX4_transform 8 "PartSums") (Z : ps_Z z 2 53) {k0 : Nat} {a1 : Int32} {a2 : Int32} {a3 : Int32} {σ : ps_S} (hk0 : ps_kd k0 = 1) {r : ps_S} (h : fX4_transform k0 a1 a2 a3 σ = some r) (k : ps_KV z 8 cX4_transform r) : ps_at z 8 0 [(0, .ref (z_ad z k0)), (1, .int a1), (2, .int a2), (3, .int a3)] [] σ := by
  unfold fX4_transform at h
  refine ps_iload_n C (pc := 0) dX4_transform_0 2 rfl ?_
  refine ps_iconst C (pc := 1) (v := 1) dX4_transform_1 (by decide) ?_
  refine ps_icmp_lt C (pc := 2) 10 dX4_transform_2 (by decide) (fun hc => ?_) (fun hc => ?_)
  · have h := ps_ift hc h
    obtain rfl := Option.some.inj h
    exact k _ _ dX4_transform_10
  · have h := ps_iff hc h
    refine ps_iload_n C (pc := 5) dX4_transform_5 2 rfl ?_
    refine ps_iconst C (pc := 6) (v := 3) dX4_transform_6 (by decide) ?_
    refine ps_icmp_le C (pc := 7) 11 dX4_transform_7 (by decide) (fun hc => ?_) (fun hc => ?_)
    · have h := ps_ift hc h
      refine ps_iconst C (pc := 11) (v := 1) dX4_transform_11 (by decide) ?_
      refine ps_iload_n C (pc := 12) dX4_transform_12 1 rfl ?_
      refine ps_ishl C (pc := 13) dX4_transform_13 ?_
      refine ps_istoreL C (pc := 14) (lw := fun x1 => [(4, .int x1), (0, .ref (z_ad z k0)), (1, .int a1), (2, .int a2), (3, .int a3)]) dX4_transform_14 (by decide) (fun _ => rfl) h (fun x1 h => ?_)
      refine ps_iconst C (pc := 16) (v := 0) dX4_transform_16 (by decide) ?_
      refine ps_istore C (pc := 17) (lv' := [(5, .int (0 : Int32)), (4, .int x1), (0, .ref (z_ad z k0)), (1, .int a1), (2, .int a2), (3, .int a3)]) dX4_transform_17 (by decide) rfl ?_
      obtain ⟨e7, he7, h⟩ := ps_bd h
      refine ps_sub [2, 3, 4, 5, 1, 0] rfl ?_
      refine ps_loop (P := pX4_transform_S19 z k0 a1 a2 a3 x1) (K := qX4_transform_S19 z k0 a1 a2 a3 x1) (fun s r h k => tX4_transform_S19 C Z k0 a1 a2 a3 x1 hk0 s r h k) _ _ _ he7 ?_
      unfold qX4_transform_S19
      obtain rfl := Option.some.inj h
      exact k _ _ dX4_transform_74
    · have h := ps_iff hc h
      obtain rfl := Option.some.inj h
      exact k _ _ dX4_transform_10
def rmX4_transform : Room := { frames := 2, cells := 0, slots := 0, locals := 53 }
theorem mX4_transform {l : Launch} {E : ps_E} {σ : ps_S} {k0 : Nat} {a1 : Int32} {a2 : Int32} {a3 : Int32} {r : ps_S} (hk0 : ps_kd k0 = 1) (h : fX4_transform k0 a1 a2 a3 σ = some r) : ps_MV l yX4_transform (ps_wm yX4_transform cX4_transform 8 none) rmX4_transform [.ref (e_ad E k0), .int a1, .int a2, .int a3] E σ r :=
  ps_metV yX4_transform rmX4_transform 8 (own := "PartSums")  (by decide +kernel) rfl (Nat.le_of_ble_eq_true rfl) rfl (fun z e1 e2 e3 e4 e5 C k => by
    subst e5
    exact tX4_transform C (ps_Zof e1 e3 e4) hk0 h k)
theorem hdX4_transform : yX4_transform.cls ≠ "java/lang/invoke/MethodHandle" ∧ yX4_transform.cls ≠ "java/lang/invoke/VarHandle" ∧ (parseMethodDescriptor yX4_transform.desc).map (fun d => d.parameters.length) = some 4 := by decide +kernel
