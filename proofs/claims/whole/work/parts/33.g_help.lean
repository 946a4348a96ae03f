def fX4_settle (k1 : Nat) (a2 : Int32) (σ : ps_S) : Option (Int32 × ps_S) :=
  ((fX0_keepLine a2 σ).bind fun q1 =>
  (ps_ck a2 5 (((fX1_countSets q1).bind fun q3 =>
  (ps_cc (0 : Int32) (0 : Int32) q3 (ps_ln k1) 256 (ps_let (ps_ur q1 (2 + 1 + (Int32.toNatClampNeg a2)) (va_cpy (q1.1 k1) (q1.1 (2 + 1 + (Int32.toNatClampNeg a2))) (Int32.toNatClampNeg (0 : Int32)) (Int32.toNatClampNeg (0 : Int32)) (Int32.toNatClampNeg q3))) fun σ5 =>
  (ps_ck a2 5 (((fX1_allThings σ5).bind fun q7 =>
  (ps_ck q7 256 (some ((σ5.1 (2 + 1 + (Int32.toNatClampNeg a2)) (Int32.toNatClampNeg q7)), σ5))))))))))))
set_option maxHeartbeats 4000000 in
set_option maxRecDepth 100000 in
theorem tX4_settle {z : ps_X} (C : ps_C z cX4_settle 3 "PartSums") (Z : ps_Z z 3 143) {k1 : Nat} {a2 : Int32} {σ : ps_S} (hk1 : ps_kd k1 = 1) {r : Int32 × ps_S} (h : fX4_settle k1 a2 σ = some r) (k : ps_KI z 3 cX4_settle r.1 r.2) : ps_at z 3 0 [(0, .ref (z_ad z 0)), (1, .ref (z_ad z k1)), (2, .int a2)] [] σ := by
  unfold fX4_settle at h
  refine ps_aload_n C (pc := 0) dX4_settle_0 0 rfl ?_
  refine pg_0_3 C (pc := 1) tw_209 dX4_settle_1 ?_
  refine ps_aload_n C (pc := 4) dX4_settle_4 0 rfl ?_
  refine pg_0_0 C (pc := 5) tw_206 dX4_settle_5 ?_
  refine ps_iload_n C (pc := 8) dX4_settle_8 2 rfl ?_
  obtain ⟨q1, hq1, h⟩ := ps_bd h
  refine ps_callVV C Z (pc := 9) (As := [.ref (z_ad z 1), .int a2]) (k0 := 22) (mX0_keepLine  hq1) (Cn := "PartSums$Acts") rfl tw_436 tw_437 tw_438 tw_67 tw_439 hdX0_keepLine rfl rfl ⟨by decide, by decide⟩ (by decide) ps_o22 rfl rfl (Nat.le_of_ble_eq_true rfl) dX4_settle_9 rfl ?_
  refine ps_aload_n C (pc := 12) dX4_settle_12 1 rfl ?_
  refine ps_iconst C (pc := 13) (v := 0) dX4_settle_13 (by decide) ?_
  refine ps_aload_n C (pc := 14) dX4_settle_14 0 rfl ?_
  refine pg_0_0 C (pc := 15) tw_206 dX4_settle_15 ?_
  refine pg_1_3 C (pc := 18) tw_106 dX4_settle_18 ?_
  refine ps_iload_n C (pc := 21) dX4_settle_21 2 rfl ?_
  obtain ⟨hi2, h⟩ := ps_ck_s h
  refine ps_aald C (pc := 22) 2 rfl rfl hi2 dX4_settle_22 ?_
  refine ps_iconst C (pc := 23) (v := 0) dX4_settle_23 (by decide) ?_
  refine ps_aload_n C (pc := 24) dX4_settle_24 0 rfl ?_
  refine pg_0_0 C (pc := 25) tw_206 dX4_settle_25 ?_
  obtain ⟨q3, hq3, h⟩ := ps_bd h
  refine ps_callVI C Z (pc := 28) (As := []) (k0 := 1) (mX1_countSets  hq3) (Cn := "PartSums$Ground") rfl tw_457 tw_409 tw_410 tw_66 tw_411 hdX1_countSets rfl rfl ⟨by decide, by decide⟩ (by decide) ps_o1 rfl rfl (Nat.le_of_ble_eq_true rfl) dX4_settle_28 rfl ?_
  obtain ⟨hi4, h⟩ := ps_cc_s h
  refine ps_copyZ C Z (pc := 31) k1 (2 + 1 + (Int32.toNatClampNeg a2)) hk1 (ps_rw2 hi2).1 rfl (ps_rw2 hi2).2 hi4 tw_473 tw_373 tw_372 tw_77 (by decide) (Nat.le_of_ble_eq_true rfl) dX4_settle_31 h (fun σ5 h => ?_)
  refine ps_aload_n C (pc := 34) dX4_settle_34 0 rfl ?_
  refine pg_0_0 C (pc := 35) tw_206 dX4_settle_35 ?_
  refine pg_1_3 C (pc := 38) tw_106 dX4_settle_38 ?_
  refine ps_iload_n C (pc := 41) dX4_settle_41 2 rfl ?_
  obtain ⟨hi6, h⟩ := ps_ck_s h
  refine ps_aald C (pc := 42) 2 rfl rfl hi6 dX4_settle_42 ?_
  refine ps_aload_n C (pc := 43) dX4_settle_43 0 rfl ?_
  refine pg_0_0 C (pc := 44) tw_206 dX4_settle_44 ?_
  obtain ⟨q7, hq7, h⟩ := ps_bd h
  refine ps_callVI C Z (pc := 47) (As := []) (k0 := 1) (mX1_allThings  hq7) (Cn := "PartSums$Ground") rfl tw_474 tw_475 tw_476 tw_66 tw_477 hdX1_allThings rfl rfl ⟨by decide, by decide⟩ (by decide) ps_o1 rfl rfl (Nat.le_of_ble_eq_true rfl) dX4_settle_47 rfl ?_
  obtain ⟨hi8, h⟩ := ps_ck_s h
  refine ps_iald C (pc := 50) (2 + 1 + (Int32.toNatClampNeg a2)) (ps_rw2 hi6).1 (ps_rw2 hi6).2 hi8 dX4_settle_50 ?_
  obtain rfl := Option.some.inj h
  exact k _ _ dX4_settle_51
def rmX4_settle : Room := { frames := 3, cells := 0, slots := 0, locals := 143 }
theorem mX4_settle {l : Launch} {E : ps_E} {σ : ps_S} {k1 : Nat} {a2 : Int32} {r : Int32 × ps_S} (hk1 : ps_kd k1 = 1) (h : fX4_settle k1 a2 σ = some r) : ps_MI l yX4_settle (ps_wm yX4_settle cX4_settle 3 (some .int)) rmX4_settle [.ref (e_ad E 0), .ref (e_ad E k1), .int a2] E σ r.1 r.2 :=
  ps_metI yX4_settle rmX4_settle 3 (own := "PartSums") r.1 (by decide +kernel) rfl (Nat.le_of_ble_eq_true rfl) rfl (fun z e1 e2 e3 e4 e5 C k => by
    subst e5
    exact tX4_settle C (ps_Zof e1 e3 e4) hk1 h k)
theorem hdX4_settle : yX4_settle.cls ≠ "java/lang/invoke/MethodHandle" ∧ yX4_settle.cls ≠ "java/lang/invoke/VarHandle" ∧ (parseMethodDescriptor yX4_settle.desc).map (fun d => d.parameters.length) = some 2 := by decide +kernel
def pX4_composeRow_S26 (z : ps_X) (a2 : Int32) (s : Int32 × ps_S) : Prop := ps_at z 4 26 [(0, .ref (z_ad z 0)), (2, .int a2), (3, .int s.1)] [] s.2
def qX4_composeRow_S26 (z : ps_X) (a2 : Int32) (x : (ps_S)) : Prop := match x with | y => ps_at z 4 59 [(0, .ref (z_ad z 0)), (2, .int a2)] [] y
def fX4_composeRow_S26 (a2 : Int32) (a3 : Int32) (σ : ps_S) : Option ((Int32 × ps_S) ⊕ ((ps_S))) :=
  ((fX1_countSets σ).bind fun q3 =>
  (if q3 ≤ a3 then some (.inr σ)
  else (ps_ck a3 256 ((ps_ck a3 256 ((ps_let (ps_ui σ 42 (Int32.toNatClampNeg a3) (Int64.toInt32 (σ.2 40 (Int32.toNatClampNeg a3)))) fun σ6 =>
  (ps_let (a3 + (1 : Int32)) fun x7 =>
  some (.inl (x7, σ6))))))))))
set_option maxHeartbeats 4000000 in
set_option maxRecDepth 100000 in
theorem tX4_composeRow_S26 {z : ps_X} (C : ps_C z cX4_composeRow 4 "PartSums") (Z : ps_Z z 4 165) (a2 : Int32)  (s : Int32 × ps_S) (r : (Int32 × ps_S) ⊕ ((ps_S))) (h : fX4_composeRow_S26 a2 s.1 s.2 = some r) (k : ps_k (pX4_composeRow_S26 z a2) (qX4_composeRow_S26 z a2) r) : pX4_composeRow_S26 z a2 s := by
  obtain ⟨a3, σ⟩ := s
  unfold fX4_composeRow_S26 at h
  unfold pX4_composeRow_S26
  refine ps_iload_n C (pc := 26) dX4_composeRow_26 2 rfl ?_
  refine ps_aload_n C (pc := 27) dX4_composeRow_27 0 rfl ?_
  refine pg_0_0 C (pc := 28) tw_206 dX4_composeRow_28 ?_
  obtain ⟨q3, hq3, h⟩ := ps_bd h
  refine ps_callVI C Z (pc := 31) (As := []) (k0 := 1) (mX1_countSets  hq3) (Cn := "PartSums$Ground") rfl tw_457 tw_409 tw_410 tw_66 tw_411 hdX1_countSets rfl rfl ⟨by decide, by decide⟩ (by decide) ps_o1 rfl rfl (Nat.le_of_ble_eq_true rfl) dX4_composeRow_31 rfl ?_
  refine ps_icmp_ge C (pc := 34) 59 dX4_composeRow_34 (by decide) (fun hc => ?_) (fun hc => ?_)
  · have h := ps_ift hc h
    obtain rfl := Option.some.inj h
    exact ps_sub [0, 1] rfl k
  · have h := ps_iff hc h
    refine ps_aload_n C (pc := 37) dX4_composeRow_37 0 rfl ?_
    refine pg_0_6 C (pc := 38) tw_212 dX4_composeRow_38 ?_
    refine ps_iload_n C (pc := 41) dX4_composeRow_41 2 rfl ?_
    refine ps_aload_n C (pc := 42) dX4_composeRow_42 0 rfl ?_
    refine pg_0_5 C (pc := 43) tw_211 dX4_composeRow_43 ?_
    refine pg_39_0 C (pc := 46) tw_199 dX4_composeRow_46 ?_
    refine ps_iload_n C (pc := 49) dX4_composeRow_49 2 rfl ?_
    obtain ⟨hi4, h⟩ := ps_ck_s h
    refine ps_lald C (pc := 50) 40 rfl rfl hi4 dX4_composeRow_50 ?_
    refine ps_l2i C (pc := 51) dX4_composeRow_51 ?_
    obtain ⟨hi5, h⟩ := ps_ck_s h
    refine ps_iastL C (pc := 52) 42 rfl rfl hi5 dX4_composeRow_52 h (fun σ6 h => ?_)
    refine ps_iincL C (pc := 53) (zz := 1) (lw := fun x7 => [(3, .int x7), (0, .ref (z_ad z 0)), (2, .int a2)]) dX4_composeRow_53 2 rfl (by decide) (by decide) (fun _ => rfl) h (fun x7 h => ?_)
    refine ps_goto C (pc := 56) 26 dX4_composeRow_56 (by decide) ?_
    obtain rfl := Option.some.inj h
    exact ps_sub [1, 2, 0] rfl k
def fX4_composeRow (a1 : Int32) (a2 : Int32) (σ : ps_S) : Option (Int32 × ps_S) :=
  (ps_ck a1 5 (((fX3_compose (2 + 1 + (Int32.toNatClampNeg a1)) (σ.1 1 0) (0 : Int32) σ).bind fun q2 =>
  ((ps_lp (fun s => fX4_composeRow_S26 a2 s.1 s.2) 100000 ((0 : Int32), q2)).bind fun e8 =>
  ((fX4_settle 42 a2 e8).bind fun q9 =>
  some (q9.1, q9.2))))))
set_option maxHeartbeats 4000000 in
set_option maxRecDepth 100000 in
theorem tX4_composeRow {z : ps_X} (C : ps_C z cX4_composeRow 4 "PartSums") (Z : ps_Z z 4 165) {a1 : Int32} {a2 : Int32} {σ : ps_S}  {r : Int32 × ps_S} (h : fX4_composeRow a1 a2 σ = some r) (k : ps_KI z 4 cX4_composeRow r.1 r.2) : ps_at z 4 0 [(0, .ref (z_ad z 0)), (1, .int a1), (2, .int a2)] [] σ := by
  unfold fX4_composeRow at h
  refine ps_aload_n C (pc := 0) dX4_composeRow_0 0 rfl ?_
  refine pg_0_5 C (pc := 1) tw_211 dX4_composeRow_1 ?_
  refine ps_aload_n C (pc := 4) dX4_composeRow_4 0 rfl ?_
  refine pg_0_0 C (pc := 5) tw_206 dX4_composeRow_5 ?_
  refine pg_1_3 C (pc := 8) tw_106 dX4_composeRow_8 ?_
  refine ps_iload_n C (pc := 11) dX4_composeRow_11 1 rfl ?_
  obtain ⟨hi1, h⟩ := ps_ck_s h
  refine ps_aald C (pc := 12) 2 rfl rfl hi1 dX4_composeRow_12 ?_
  refine ps_aload_n C (pc := 13) dX4_composeRow_13 0 rfl ?_
  refine pg_0_0 C (pc := 14) tw_206 dX4_composeRow_14 ?_
  refine pg_1_0 C (pc := 17) tw_100 dX4_composeRow_17 ?_
  refine ps_iconst C (pc := 20) (v := 0) dX4_composeRow_20 (by decide) ?_
  obtain ⟨q2, hq2, h⟩ := ps_bd h
  refine ps_callVV C Z (pc := 21) (As := [.ref (z_ad z (2 + 1 + (Int32.toNatClampNeg a1))), .int (σ.1 1 0), .int (0 : Int32)]) (k0 := 39) (mX3_compose (ps_rw2 hi1).1 hq2) (Cn := "PartSums$Series") rfl tw_532 tw_533 tw_534 tw_69 tw_535 hdX3_compose rfl rfl ⟨by decide, by decide⟩ (by decide) ps_o39 rfl rfl (Nat.le_of_ble_eq_true rfl) dX4_composeRow_21 rfl ?_
  refine ps_iconst C (pc := 24) (v := 0) dX4_composeRow_24 (by decide) ?_
  refine ps_istore_n C (pc := 25) (lv' := [(3, .int (0 : Int32)), (0, .ref (z_ad z 0)), (1, .int a1), (2, .int a2)]) dX4_composeRow_25 (by decide) rfl ?_
  obtain ⟨e8, he8, h⟩ := ps_bd h
  refine ps_sub [1, 3, 0] rfl ?_
  refine ps_loop (P := pX4_composeRow_S26 z a2) (K := qX4_composeRow_S26 z a2) (fun s r h k => tX4_composeRow_S26 C Z a2  s r h k) _ _ _ he8 ?_
  unfold qX4_composeRow_S26
  refine ps_aload_n C (pc := 59) dX4_composeRow_59 0 rfl ?_
  refine ps_aload_n C (pc := 60) dX4_composeRow_60 0 rfl ?_
  refine pg_0_6 C (pc := 61) tw_212 dX4_composeRow_61 ?_
  refine ps_iload_n C (pc := 64) dX4_composeRow_64 1 rfl ?_
  obtain ⟨q9, hq9, h⟩ := ps_bd h
  refine ps_callVI C Z (pc := 65) (As := [.ref (z_ad z 42), .int a2]) (k0 := 0) (mX4_settle (by rfl) hq9) (Cn := "PartSums") rfl tw_469 tw_471 tw_11 tw_65 tw_472 hdX4_settle rfl rfl ⟨by decide, by decide⟩ (by decide) ps_o0 rfl rfl (Nat.le_of_ble_eq_true rfl) dX4_composeRow_65 rfl ?_
  obtain rfl := Option.some.inj h
  exact k _ _ dX4_composeRow_68
def rmX4_composeRow : Room := { frames := 4, cells := 0, slots := 0, locals := 165 }
theorem mX4_composeRow {l : Launch} {E : ps_E} {σ : ps_S} {a1 : Int32} {a2 : Int32} {r : Int32 × ps_S}  (h : fX4_composeRow a1 a2 σ = some r) : ps_MI l yX4_composeRow (ps_wm yX4_composeRow cX4_composeRow 4 (some .int)) rmX4_composeRow [.ref (e_ad E 0), .int a1, .int a2] E σ r.1 r.2 :=
  ps_metI yX4_composeRow rmX4_composeRow 4 (own := "PartSums") r.1 (by decide +kernel) rfl (Nat.le_of_ble_eq_true rfl) rfl (fun z e1 e2 e3 e4 e5 C k => by
    subst e5
    exact tX4_composeRow C (ps_Zof e1 e3 e4)  h k)
theorem hdX4_composeRow : yX4_composeRow.cls ≠ "java/lang/invoke/MethodHandle" ∧ yX4_composeRow.cls ≠ "java/lang/invoke/VarHandle" ∧ (parseMethodDescriptor yX4_composeRow.desc).map (fun d => d.parameters.length) = some 2 := by decide +kernel
def fX4_transformRow_J50 (a1 : Int32) (a2 : Int32) (a3 : Int32) (u0 : Int32) (u1 : Int32) (u2 : Nat) (σ : ps_S) : Option (Int32 × ps_S) :=
  ((fX4_transform u2 u1 u0 a3 σ).bind fun q4 =>
  (ps_ck a1 5 ((if a2 = 0 then ((fX1_allThings q4).bind fun q6 =>
  (ps_ck q6 256 (some ((q4.1 (2 + 1 + (Int32.toNatClampNeg a1)) (Int32.toNatClampNeg q6)), q4))))
  else (ps_ck (0 : Int32) 256 (some ((q4.1 (2 + 1 + (Int32.toNatClampNeg a1)) (Int32.toNatClampNeg (0 : Int32))), q4)))))))
set_option maxHeartbeats 4000000 in
set_option maxRecDepth 100000 in
theorem tX4_transformRow_J50 {z : ps_X} (C : ps_C z cX4_transformRow 4 "PartSums") (Z : ps_Z z 3 143) {a1 : Int32} {a2 : Int32} {a3 : Int32} {u0 : Int32} {u1 : Int32} {u2 : Nat} {σ : ps_S} (hu2 : ps_kd u2 = 1) {r : Int32 × ps_S} (h : fX4_transformRow_J50 a1 a2 a3 u0 u1 u2 σ = some r) (k : ps_KI z 4 cX4_transformRow r.1 r.2) : ps_at z 4 50 [(0, .ref (z_ad z 0)), (1, .int a1), (2, .int a2), (3, .int a3)] [.int u0, .int u1, .ref (z_ad z u2)] σ := by
  unfold fX4_transformRow_J50 at h
  refine ps_iload_n C (pc := 50) dX4_transformRow_50 3 rfl ?_
  obtain ⟨q4, hq4, h⟩ := ps_bd h
  refine ps_callSV C Z (pc := 51) (As := [.ref (z_ad z u2), .int u1, .int u0, .int a3]) (mX4_transform hu2 hq4) tw_486 tw_487 tw_65 tw_488 hdX4_transform rfl rfl ⟨by decide, by decide⟩ rfl (Nat.le_of_ble_eq_true rfl) dX4_transformRow_51 rfl ?_
  refine ps_aload_n C (pc := 54) dX4_transformRow_54 0 rfl ?_
  refine pg_0_0 C (pc := 55) tw_206 dX4_transformRow_55 ?_
  refine pg_1_3 C (pc := 58) tw_106 dX4_transformRow_58 ?_
  refine ps_iload_n C (pc := 61) dX4_transformRow_61 1 rfl ?_
  obtain ⟨hi5, h⟩ := ps_ck_s h
  refine ps_aald C (pc := 62) 2 rfl rfl hi5 dX4_transformRow_62 ?_
  refine ps_iload_n C (pc := 63) dX4_transformRow_63 2 rfl ?_
  refine ps_if_eq C (pc := 64) 71 dX4_transformRow_64 (by decide) (fun hc => ?_) (fun hc => ?_)
  · have h := ps_ift hc h
    refine ps_aload_n C (pc := 71) dX4_transformRow_71 0 rfl ?_
    refine pg_0_0 C (pc := 72) tw_206 dX4_transformRow_72 ?_
    obtain ⟨q6, hq6, h⟩ := ps_bd h
    refine ps_callVI C Z (pc := 75) (As := []) (k0 := 1) (mX1_allThings  hq6) (Cn := "PartSums$Ground") rfl tw_474 tw_475 tw_476 tw_66 tw_477 hdX1_allThings rfl rfl ⟨by decide, by decide⟩ (by decide) ps_o1 rfl rfl (Nat.le_of_ble_eq_true rfl) dX4_transformRow_75 rfl ?_
    obtain ⟨hi7, h⟩ := ps_ck_s h
    refine ps_iald C (pc := 78) (2 + 1 + (Int32.toNatClampNeg a1)) (ps_rw2 hi5).1 (ps_rw2 hi5).2 hi7 dX4_transformRow_78 ?_
    obtain rfl := Option.some.inj h
    exact k _ _ dX4_transformRow_79
  · have h := ps_iff hc h
    refine ps_iconst C (pc := 67) (v := 0) dX4_transformRow_67 (by decide) ?_
    refine ps_goto C (pc := 68) 78 dX4_transformRow_68 (by decide) ?_
    obtain ⟨hi8, h⟩ := ps_ck_s h
    refine ps_iald C (pc := 78) (2 + 1 + (Int32.toNatClampNeg a1)) (ps_rw2 hi5).1 (ps_rw2 hi5).2 hi8 dX4_transformRow_78 ?_
    obtain rfl := Option.some.inj h
    exact k _ _ dX4_transformRow_79
def fX4_transformRow (a1 : Int32) (a2 : Int32) (a3 : Int32) (σ : ps_S) : Option (Int32 × ps_S) :=
  ((fX1_hasRow a1 σ).bind fun q1 =>
  (if q1 = 0 then some ((-1 : Int32), σ)
  else ((fX0_keepLine a1 σ).bind fun q2 =>
  (ps_ck a1 5 ((if a2 = 0 then fX4_transformRow_J50 a1 a2 a3 (1 : Int32) (q2.1 1 0) (2 + 1 + (Int32.toNatClampNeg a1)) q2
  else fX4_transformRow_J50 a1 a2 a3 (2 : Int32) (q2.1 1 0) (2 + 1 + (Int32.toNatClampNeg a1)) q2))))))
set_option maxHeartbeats 4000000 in
set_option maxRecDepth 100000 in
theorem tX4_transformRow {z : ps_X} (C : ps_C z cX4_transformRow 4 "PartSums") (Z : ps_Z z 3 143) {a1 : Int32} {a2 : Int32} {a3 : Int32} {σ : ps_S}  {r : Int32 × ps_S} (h : fX4_transformRow a1 a2 a3 σ = some r) (k : ps_KI z 4 cX4_transformRow r.1 r.2) : ps_at z 4 0 [(0, .ref (z_ad z 0)), (1, .int a1), (2, .int a2), (3, .int a3)] [] σ := by
  unfold fX4_transformRow at h
  refine ps_aload_n C (pc := 0) dX4_transformRow_0 0 rfl ?_
  refine pg_0_0 C (pc := 1) tw_206 dX4_transformRow_1 ?_
  refine ps_iload_n C (pc := 4) dX4_transformRow_4 1 rfl ?_
  obtain ⟨q1, hq1, h⟩ := ps_bd h
  refine ps_callVI C Z (pc := 5) (As := [.int a1]) (k0 := 1) (mX1_hasRow  hq1) (Cn := "PartSums$Ground") rfl tw_428 tw_429 tw_430 tw_66 tw_431 hdX1_hasRow rfl rfl ⟨by decide, by decide⟩ (by decide) ps_o1 rfl rfl (Nat.le_of_ble_eq_true rfl) dX4_transformRow_5 rfl ?_
  refine ps_if_ne C (pc := 8) 13 dX4_transformRow_8 (by decide) (fun hc => ?_) (fun hc => ?_)
  · have h := ps_iff hc h
    refine ps_aload_n C (pc := 13) dX4_transformRow_13 0 rfl ?_
    refine pg_0_3 C (pc := 14) tw_209 dX4_transformRow_14 ?_
    refine ps_aload_n C (pc := 17) dX4_transformRow_17 0 rfl ?_
    refine pg_0_0 C (pc := 18) tw_206 dX4_transformRow_18 ?_
    refine ps_iload_n C (pc := 21) dX4_transformRow_21 1 rfl ?_
    obtain ⟨q2, hq2, h⟩ := ps_bd h
    refine ps_callVV C Z (pc := 22) (As := [.ref (z_ad z 1), .int a1]) (k0 := 22) (mX0_keepLine  hq2) (Cn := "PartSums$Acts") rfl tw_436 tw_437 tw_438 tw_67 tw_439 hdX0_keepLine rfl rfl ⟨by decide, by decide⟩ (by decide) ps_o22 rfl rfl (Nat.le_of_ble_eq_true rfl) dX4_transformRow_22 rfl ?_
    refine ps_aload_n C (pc := 25) dX4_transformRow_25 0 rfl ?_
    refine pg_0_0 C (pc := 26) tw_206 dX4_transformRow_26 ?_
    refine pg_1_3 C (pc := 29) tw_106 dX4_transformRow_29 ?_
    refine ps_iload_n C (pc := 32) dX4_transformRow_32 1 rfl ?_
    obtain ⟨hi3, h⟩ := ps_ck_s h
    refine ps_aald C (pc := 33) 2 rfl rfl hi3 dX4_transformRow_33 ?_
    refine ps_aload_n C (pc := 34) dX4_transformRow_34 0 rfl ?_
    refine pg_0_0 C (pc := 35) tw_206 dX4_transformRow_35 ?_
    refine pg_1_0 C (pc := 38) tw_100 dX4_transformRow_38 ?_
    refine ps_iload_n C (pc := 41) dX4_transformRow_41 2 rfl ?_
    refine ps_if_eq C (pc := 42) 49 dX4_transformRow_42 (by decide) (fun hc => ?_) (fun hc => ?_)
    · have h := ps_ift hc h
      refine ps_iconst C (pc := 49) (v := 1) dX4_transformRow_49 (by decide) ?_
      exact ps_sub [0, 1, 2, 3] rfl (tX4_transformRow_J50 C Z (ps_rw2 hi3).1 h k)
    · have h := ps_iff hc h
      refine ps_iconst C (pc := 45) (v := 2) dX4_transformRow_45 (by decide) ?_
      refine ps_goto C (pc := 46) 50 dX4_transformRow_46 (by decide) ?_
      exact ps_sub [0, 1, 2, 3] rfl (tX4_transformRow_J50 C Z (ps_rw2 hi3).1 h k)
  · have h := ps_ift hc h
    refine ps_iconst C (pc := 11) (v := -1) dX4_transformRow_11 (by decide) ?_
    obtain rfl := Option.some.inj h
    exact k _ _ dX4_transformRow_12
def rmX4_transformRow : Room := { frames := 3, cells := 0, slots := 0, locals := 143 }
theorem mX4_transformRow {l : Launch} {E : ps_E} {σ : ps_S} {a1 : Int32} {a2 : Int32} {a3 : Int32} {r : Int32 × ps_S}  (h : fX4_transformRow a1 a2 a3 σ = some r) : ps_MI l yX4_transformRow (ps_wm yX4_transformRow cX4_transformRow 4 (some .int)) rmX4_transformRow [.ref (e_ad E 0), .int a1, .int a2, .int a3] E σ r.1 r.2 :=
  ps_metI yX4_transformRow rmX4_transformRow 4 (own := "PartSums") r.1 (by decide +kernel) rfl (Nat.le_of_ble_eq_true rfl) rfl (fun z e1 e2 e3 e4 e5 C k => by
    subst e5
    exact tX4_transformRow C (ps_Zof e1 e3 e4)  h k)
theorem hdX4_transformRow : yX4_transformRow.cls ≠ "java/lang/invoke/MethodHandle" ∧ yX4_transformRow.cls ≠ "java/lang/invoke/VarHandle" ∧ (parseMethodDescriptor yX4_transformRow.desc).map (fun d => d.parameters.length) = some 3 := by decide +kernel
def pX4_multiplyApart_S2 (z : ps_X) (k1 : Nat) (k2 : Nat) (s : Int32 × ps_S) : Prop := ps_at z 7 2 [(0, .ref (z_ad z 0)), (1, .ref (z_ad z k1)), (2, .ref (z_ad z k2)), (3, .int s.1)] [] s.2
def qX4_multiplyApart_S2 (z : ps_X) (k1 : Nat) (k2 : Nat) (x : (ps_S)) : Prop := match x with | y => ps_at z 7 78 [] [] y
def pX4_multiplyApart_S27 (z : ps_X) (k1 : Nat) (k2 : Nat) (a3 : Int32) (σ : ps_S) (s : Int64 × Int32) : Prop := ps_at z 7 27 [(0, .ref (z_ad z 0)), (1, .ref (z_ad z k1)), (2, .ref (z_ad z k2)), (3, .int a3), (4, .long s.1), (6, .int s.2)] [] σ
def qX4_multiplyApart_S27 (z : ps_X) (k1 : Nat) (k2 : Nat) (a3 : Int32) (σ : ps_S) (x : (Int64)) : Prop := match x with | y => ps_at z 7 61 [(0, .ref (z_ad z 0)), (1, .ref (z_ad z k1)), (2, .ref (z_ad z k2)), (3, .int a3), (4, .long y)] [] σ
def fX4_multiplyApart_S27 (k1 : Nat) (k2 : Nat) (a3 : Int32) (σ : ps_S) (a4 : Int64) (a6 : Int32) : Option ((Int64 × Int32) ⊕ ((Int64))) :=
  (if a6 ≤ 0 then some (.inr a4)
  else (ps_ck a6 (ps_ln k1) ((ps_ck (a3 ^^^ a6) (ps_ln k2) ((ps_let (a4 + ((Int32.toInt64 (σ.1 k1 (Int32.toNatClampNeg a6))) * (Int32.toInt64 (σ.1 k2 (Int32.toNatClampNeg (a3 ^^^ a6)))))) fun x7 =>
  (ps_let ((a6 - (1 : Int32)) &&& a3) fun x8 =>
  some (.inl (x7, x8)))))))))
set_option maxHeartbeats 4000000 in
set_option maxRecDepth 100000 in
theorem tX4_multiplyApart_S27 {z : ps_X} (C : ps_C z cX4_multiplyApart 7 "PartSums") (Z : ps_Z z 1 23) (k1 : Nat) (k2 : Nat) (a3 : Int32) (σ : ps_S) (hk1 : ps_kd k1 = 1) (hk2 : ps_kd k2 = 1) (s : Int64 × Int32) (r : (Int64 × Int32) ⊕ ((Int64))) (h : fX4_multiplyApart_S27 k1 k2 a3 σ s.1 s.2 = some r) (k : ps_k (pX4_multiplyApart_S27 z k1 k2 a3 σ) (qX4_multiplyApart_S27 z k1 k2 a3 σ) r) : pX4_multiplyApart_S27 z k1 k2 a3 σ s := by
  obtain ⟨a4, a6⟩ := s
  unfold fX4_multiplyApart_S27 at h
  unfold pX4_multiplyApart_S27
  refine ps_iload C (pc := 27) dX4_multiplyApart_27 5 rfl ?_
  refine ps_if_le C (pc := 29) 61 dX4_multiplyApart_29 (by decide) (fun hc => ?_) (fun hc => ?_)
  · have h := ps_ift hc h
    obtain rfl := Option.some.inj h
    exact ps_sub [0, 1, 2, 3, 4] rfl k
  · have h := ps_iff hc h
    refine ps_lload C (pc := 32) dX4_multiplyApart_32 4 rfl ?_
    refine ps_aload_n C (pc := 34) dX4_multiplyApart_34 1 rfl ?_
    refine ps_iload C (pc := 35) dX4_multiplyApart_35 5 rfl ?_
    obtain ⟨hi5, h⟩ := ps_ck_s h
    refine ps_iald C (pc := 37) k1 hk1 rfl hi5 dX4_multiplyApart_37 ?_
    refine ps_i2l C (pc := 38) dX4_multiplyApart_38 ?_
    refine ps_aload_n C (pc := 39) dX4_multiplyApart_39 2 rfl ?_
    refine ps_iload_n C (pc := 40) dX4_multiplyApart_40 3 rfl ?_
    refine ps_iload C (pc := 41) dX4_multiplyApart_41 5 rfl ?_
    refine ps_ixor C (pc := 43) dX4_multiplyApart_43 ?_
    obtain ⟨hi6, h⟩ := ps_ck_s h
    refine ps_iald C (pc := 44) k2 hk2 rfl hi6 dX4_multiplyApart_44 ?_
    refine ps_i2l C (pc := 45) dX4_multiplyApart_45 ?_
    refine ps_lmul C (pc := 46) dX4_multiplyApart_46 ?_
    refine ps_ladd C (pc := 47) dX4_multiplyApart_47 ?_
    refine ps_lstoreL C (pc := 48) (lw := fun x7 => [(4, .long x7), (0, .ref (z_ad z 0)), (1, .ref (z_ad z k1)), (2, .ref (z_ad z k2)), (3, .int a3), (6, .int a6)]) dX4_multiplyApart_48 (by decide) (fun _ => rfl) h (fun x7 h => ?_)
    refine ps_iload C (pc := 50) dX4_multiplyApart_50 5 rfl ?_
    refine ps_iconst C (pc := 52) (v := 1) dX4_multiplyApart_52 (by decide) ?_
    refine ps_isub C (pc := 53) dX4_multiplyApart_53 ?_
    refine ps_iload_n C (pc := 54) dX4_multiplyApart_54 4 rfl ?_
    refine ps_iand C (pc := 55) dX4_multiplyApart_55 ?_
    refine ps_istoreL C (pc := 56) (lw := fun x8 => [(6, .int x8), (4, .long x7), (0, .ref (z_ad z 0)), (1, .ref (z_ad z k1)), (2, .ref (z_ad z k2)), (3, .int a3)]) dX4_multiplyApart_56 (by decide) (fun _ => rfl) h (fun x8 h => ?_)
    refine ps_goto C (pc := 58) 27 dX4_multiplyApart_58 (by decide) ?_
    obtain rfl := Option.some.inj h
    exact ps_sub [2, 3, 4, 5, 1, 0] rfl k
def fX4_multiplyApart_S2 (k1 : Nat) (k2 : Nat) (a3 : Int32) (σ : ps_S) : Option ((Int32 × ps_S) ⊕ ((ps_S))) :=
  ((fX1_countSets σ).bind fun q1 =>
  (if q1 ≤ a3 then some (.inr σ)
  else (ps_ck (0 : Int32) (ps_ln k1) ((ps_ck a3 (ps_ln k2) ((ps_let ((Int32.toInt64 (σ.1 k1 (Int32.toNatClampNeg (0 : Int32)))) * (Int32.toInt64 (σ.1 k2 (Int32.toNatClampNeg a3)))) fun x4 =>
  ((ps_lp (fun s => fX4_multiplyApart_S27 k1 k2 a3 σ s.1 s.2) 100000 (x4, a3)).bind fun e9 =>
  ((fX4_reduce e9).bind fun q10 =>
  (ps_ck a3 256 ((ps_let (ps_ui σ 42 (Int32.toNatClampNeg a3) q10) fun σ12 =>
  (ps_let (a3 + (1 : Int32)) fun x13 =>
  some (.inl (x13, σ12)))))))))))))))
set_option maxHeartbeats 4000000 in
set_option maxRecDepth 100000 in
theorem tX4_multiplyApart_S2 {z : ps_X} (C : ps_C z cX4_multiplyApart 7 "PartSums") (Z : ps_Z z 1 23) (k1 : Nat) (k2 : Nat) (hk1 : ps_kd k1 = 1) (hk2 : ps_kd k2 = 1) (s : Int32 × ps_S) (r : (Int32 × ps_S) ⊕ ((ps_S))) (h : fX4_multiplyApart_S2 k1 k2 s.1 s.2 = some r) (k : ps_k (pX4_multiplyApart_S2 z k1 k2) (qX4_multiplyApart_S2 z k1 k2) r) : pX4_multiplyApart_S2 z k1 k2 s := by
  obtain ⟨a3, σ⟩ := s
  unfold fX4_multiplyApart_S2 at h
  unfold pX4_multiplyApart_S2
  refine ps_iload_n C (pc := 2) dX4_multiplyApart_2 3 rfl ?_
  refine ps_aload_n C (pc := 3) dX4_multiplyApart_3 0 rfl ?_
  refine pg_0_0 C (pc := 4) tw_206 dX4_multiplyApart_4 ?_
  obtain ⟨q1, hq1, h⟩ := ps_bd h
  refine ps_callVI C Z (pc := 7) (As := []) (k0 := 1) (mX1_countSets  hq1) (Cn := "PartSums$Ground") rfl tw_457 tw_409 tw_410 tw_66 tw_411 hdX1_countSets rfl rfl ⟨by decide, by decide⟩ (by decide) ps_o1 rfl rfl (Nat.le_of_ble_eq_true rfl) dX4_multiplyApart_7 rfl ?_
  refine ps_icmp_ge C (pc := 10) 78 dX4_multiplyApart_10 (by decide) (fun hc => ?_) (fun hc => ?_)
  · have h := ps_ift hc h
    obtain rfl := Option.some.inj h
    exact ps_sub [] rfl k
  · have h := ps_iff hc h
    refine ps_aload_n C (pc := 13) dX4_multiplyApart_13 1 rfl ?_
    refine ps_iconst C (pc := 14) (v := 0) dX4_multiplyApart_14 (by decide) ?_
    obtain ⟨hi2, h⟩ := ps_ck_s h
    refine ps_iald C (pc := 15) k1 hk1 rfl hi2 dX4_multiplyApart_15 ?_
    refine ps_i2l C (pc := 16) dX4_multiplyApart_16 ?_
    refine ps_aload_n C (pc := 17) dX4_multiplyApart_17 2 rfl ?_
    refine ps_iload_n C (pc := 18) dX4_multiplyApart_18 3 rfl ?_
    obtain ⟨hi3, h⟩ := ps_ck_s h
    refine ps_iald C (pc := 19) k2 hk2 rfl hi3 dX4_multiplyApart_19 ?_
    refine ps_i2l C (pc := 20) dX4_multiplyApart_20 ?_
    refine ps_lmul C (pc := 21) dX4_multiplyApart_21 ?_
    refine ps_lstoreL C (pc := 22) (lw := fun x4 => [(4, .long x4), (0, .ref (z_ad z 0)), (1, .ref (z_ad z k1)), (2, .ref (z_ad z k2)), (3, .int a3)]) dX4_multiplyApart_22 (by decide) (fun _ => rfl) h (fun x4 h => ?_)
    refine ps_iload_n C (pc := 24) dX4_multiplyApart_24 4 rfl ?_
    refine ps_istore C (pc := 25) (lv' := [(6, .int a3), (4, .long x4), (0, .ref (z_ad z 0)), (1, .ref (z_ad z k1)), (2, .ref (z_ad z k2)), (3, .int a3)]) dX4_multiplyApart_25 (by decide) rfl ?_
    obtain ⟨e9, he9, h⟩ := ps_bd h
    refine ps_sub [2, 3, 4, 5, 1, 0] rfl ?_
    refine ps_loop (P := pX4_multiplyApart_S27 z k1 k2 a3 σ) (K := qX4_multiplyApart_S27 z k1 k2 a3 σ) (fun s r h k => tX4_multiplyApart_S27 C Z k1 k2 a3 σ hk1 hk2 s r h k) _ _ _ he9 ?_
    unfold qX4_multiplyApart_S27
    refine ps_aload_n C (pc := 61) dX4_multiplyApart_61 0 rfl ?_
    refine pg_0_6 C (pc := 62) tw_212 dX4_multiplyApart_62 ?_
    refine ps_iload_n C (pc := 65) dX4_multiplyApart_65 3 rfl ?_
    refine ps_lload C (pc := 66) dX4_multiplyApart_66 4 rfl ?_
    obtain ⟨q10, hq10, h⟩ := ps_bd h
    refine ps_callSI C Z (pc := 68) (As := [.long e9]) (mX4_reduce  hq10) tw_446 tw_447 tw_65 tw_448 hdX4_reduce rfl rfl ⟨by decide, by decide⟩ rfl (Nat.le_of_ble_eq_true rfl) dX4_multiplyApart_68 rfl ?_
    obtain ⟨hi11, h⟩ := ps_ck_s h
    refine ps_iastL C (pc := 71) 42 rfl rfl hi11 dX4_multiplyApart_71 h (fun σ12 h => ?_)
    refine ps_iincL C (pc := 72) (zz := 1) (lw := fun x13 => [(3, .int x13), (0, .ref (z_ad z 0)), (1, .ref (z_ad z k1)), (2, .ref (z_ad z k2)), (4, .long e9)]) dX4_multiplyApart_72 3 rfl (by decide) (by decide) (fun _ => rfl) h (fun x13 h => ?_)
    refine ps_goto C (pc := 75) 2 dX4_multiplyApart_75 (by decide) ?_
    obtain rfl := Option.some.inj h
    exact ps_sub [1, 2, 3, 0] rfl k
def fX4_multiplyApart (k1 : Nat) (k2 : Nat) (σ : ps_S) : Option (ps_S) :=
  ((ps_lp (fun s => fX4_multiplyApart_S2 k1 k2 s.1 s.2) 100000 ((0 : Int32), σ)).bind fun e14 =>
  some e14)
set_option maxHeartbeats 4000000 in
set_option maxRecDepth 100000 in
theorem tX4_multiplyApart {z : ps_X} (C : ps_C z cX4_multiplyApart 7 "PartSums") (Z : ps_Z z 1 23) {k1 : Nat} {k2 : Nat} {σ : ps_S} (hk1 : ps_kd k1 = 1) (hk2 : ps_kd k2 = 1) {r : ps_S} (h : fX4_multiplyApart k1 k2 σ = some r) (k : ps_KV z 7 cX4_multiplyApart r) : ps_at z 7 0 [(0, .ref (z_ad z 0)), (1, .ref (z_ad z k1)), (2, .ref (z_ad z k2))] [] σ := by
  unfold fX4_multiplyApart at h
  refine ps_iconst C (pc := 0) (v := 0) dX4_multiplyApart_0 (by decide) ?_
  refine ps_istore_n C (pc := 1) (lv' := [(3, .int (0 : Int32)), (0, .ref (z_ad z 0)), (1, .ref (z_ad z k1)), (2, .ref (z_ad z k2))]) dX4_multiplyApart_1 (by decide) rfl ?_
  obtain ⟨e14, he14, h⟩ := ps_bd h
  refine ps_sub [1, 2, 3, 0] rfl ?_
  refine ps_loop (P := pX4_multiplyApart_S2 z k1 k2) (K := qX4_multiplyApart_S2 z k1 k2) (fun s r h k => tX4_multiplyApart_S2 C Z k1 k2 hk1 hk2 s r h k) _ _ _ he14 ?_
  unfold qX4_multiplyApart_S2
  obtain rfl := Option.some.inj h
  exact k _ _ dX4_multiplyApart_78
def rmX4_multiplyApart : Room := { frames := 1, cells := 0, slots := 0, locals := 23 }
theorem mX4_multiplyApart {l : Launch} {E : ps_E} {σ : ps_S} {k1 : Nat} {k2 : Nat} {r : ps_S} (hk1 : ps_kd k1 = 1) (hk2 : ps_kd k2 = 1) (h : fX4_multiplyApart k1 k2 σ = some r) : ps_MV l yX4_multiplyApart (ps_wm yX4_multiplyApart cX4_multiplyApart 7 none) rmX4_multiplyApart [.ref (e_ad E 0), .ref (e_ad E k1), .ref (e_ad E k2)] E σ r :=
  ps_metV yX4_multiplyApart rmX4_multiplyApart 7 (own := "PartSums")  (by decide +kernel) rfl (Nat.le_of_ble_eq_true rfl) rfl (fun z e1 e2 e3 e4 e5 C k => by
    subst e5
    exact tX4_multiplyApart C (ps_Zof e1 e3 e4) hk1 hk2 h k)
theorem hdX4_multiplyApart : yX4_multiplyApart.cls ≠ "java/lang/invoke/MethodHandle" ∧ yX4_multiplyApart.cls ≠ "java/lang/invoke/VarHandle" ∧ (parseMethodDescriptor yX4_multiplyApart.desc).map (fun d => d.parameters.length) = some 2 := by decide +kernel
def pX4_multiplyTransformed_S61 (z : ps_X) (a3 : Int32) (s : Int32 × ps_S) : Prop := ps_at z 5 61 [(0, .ref (z_ad z 0)), (3, .int a3), (4, .int s.1)] [] s.2
def qX4_multiplyTransformed_S61 (z : ps_X) (a3 : Int32) (x : (ps_S)) : Prop := match x with | y => ps_at z 5 104 [(0, .ref (z_ad z 0)), (3, .int a3)] [] y
def fX4_multiplyTransformed_S61 (a3 : Int32) (a4 : Int32) (σ : ps_S) : Option ((Int32 × ps_S) ⊕ ((ps_S))) :=
  ((fX1_countSets σ).bind fun q7 =>
  (if q7 ≤ a4 then some (.inr σ)
  else (ps_ck a4 256 ((ps_ck a4 256 (((fX4_combine (σ.1 42 (Int32.toNatClampNeg a4)) (σ.1 43 (Int32.toNatClampNeg a4)) a3).bind fun q10 =>
  (ps_ck a4 256 ((ps_let (ps_ui σ 42 (Int32.toNatClampNeg a4) q10) fun σ12 =>
  (ps_let (a4 + (1 : Int32)) fun x13 =>
  some (.inl (x13, σ12)))))))))))))
set_option maxHeartbeats 4000000 in
set_option maxRecDepth 100000 in
theorem tX4_multiplyTransformed_S61 {z : ps_X} (C : ps_C z cX4_multiplyTransformed 5 "PartSums") (Z : ps_Z z 3 100) (a3 : Int32)  (s : Int32 × ps_S) (r : (Int32 × ps_S) ⊕ ((ps_S))) (h : fX4_multiplyTransformed_S61 a3 s.1 s.2 = some r) (k : ps_k (pX4_multiplyTransformed_S61 z a3) (qX4_multiplyTransformed_S61 z a3) r) : pX4_multiplyTransformed_S61 z a3 s := by
  obtain ⟨a4, σ⟩ := s
  unfold fX4_multiplyTransformed_S61 at h
  unfold pX4_multiplyTransformed_S61
  refine ps_iload C (pc := 61) dX4_multiplyTransformed_61 2 rfl ?_
  refine ps_aload_n C (pc := 63) dX4_multiplyTransformed_63 0 rfl ?_
  refine pg_0_0 C (pc := 64) tw_206 dX4_multiplyTransformed_64 ?_
  obtain ⟨q7, hq7, h⟩ := ps_bd h
  refine ps_callVI C Z (pc := 67) (As := []) (k0 := 1) (mX1_countSets  hq7) (Cn := "PartSums$Ground") rfl tw_457 tw_409 tw_410 tw_66 tw_411 hdX1_countSets rfl rfl ⟨by decide, by decide⟩ (by decide) ps_o1 rfl rfl (Nat.le_of_ble_eq_true rfl) dX4_multiplyTransformed_67 rfl ?_
  refine ps_icmp_ge C (pc := 70) 104 dX4_multiplyTransformed_70 (by decide) (fun hc => ?_) (fun hc => ?_)
  · have h := ps_ift hc h
    obtain rfl := Option.some.inj h
    exact ps_sub [0, 1] rfl k
  · have h := ps_iff hc h
    refine ps_aload_n C (pc := 73) dX4_multiplyTransformed_73 0 rfl ?_
    refine pg_0_6 C (pc := 74) tw_212 dX4_multiplyTransformed_74 ?_
    refine ps_iload C (pc := 77) dX4_multiplyTransformed_77 2 rfl ?_
    refine ps_aload_n C (pc := 79) dX4_multiplyTransformed_79 0 rfl ?_
    refine pg_0_6 C (pc := 80) tw_212 dX4_multiplyTransformed_80 ?_
    refine ps_iload C (pc := 83) dX4_multiplyTransformed_83 2 rfl ?_
    obtain ⟨hi8, h⟩ := ps_ck_s h
    refine ps_iald C (pc := 85) 42 rfl rfl hi8 dX4_multiplyTransformed_85 ?_
    refine ps_aload_n C (pc := 86) dX4_multiplyTransformed_86 0 rfl ?_
    refine pg_0_7 C (pc := 87) tw_213 dX4_multiplyTransformed_87 ?_
    refine ps_iload C (pc := 90) dX4_multiplyTransformed_90 2 rfl ?_
    obtain ⟨hi9, h⟩ := ps_ck_s h
    refine ps_iald C (pc := 92) 43 rfl rfl hi9 dX4_multiplyTransformed_92 ?_
    refine ps_iload_n C (pc := 93) dX4_multiplyTransformed_93 1 rfl ?_
    obtain ⟨q10, hq10, h⟩ := ps_bd h
    refine ps_callSI C Z (pc := 94) (As := [.int (σ.1 42 (Int32.toNatClampNeg a4)), .int (σ.1 43 (Int32.toNatClampNeg a4)), .int a3]) (mX4_combine  hq10) tw_509 tw_510 tw_65 tw_511 hdX4_combine rfl rfl ⟨by decide, by decide⟩ rfl (Nat.le_of_ble_eq_true rfl) dX4_multiplyTransformed_94 rfl ?_
    obtain ⟨hi11, h⟩ := ps_ck_s h
    refine ps_iastL C (pc := 97) 42 rfl rfl hi11 dX4_multiplyTransformed_97 h (fun σ12 h => ?_)
    refine ps_iincL C (pc := 98) (zz := 1) (lw := fun x13 => [(4, .int x13), (0, .ref (z_ad z 0)), (3, .int a3)]) dX4_multiplyTransformed_98 2 rfl (by decide) (by decide) (fun _ => rfl) h (fun x13 h => ?_)
    refine ps_goto C (pc := 101) 61 dX4_multiplyTransformed_101 (by decide) ?_
    obtain rfl := Option.some.inj h
    exact ps_sub [1, 2, 0] rfl k
def fX4_multiplyTransformed (k1 : Nat) (k2 : Nat) (a3 : Int32) (σ : ps_S) : Option (ps_S) :=
  (ps_cc (0 : Int32) (0 : Int32) (256 : Int32) (ps_ln k1) 256 (ps_let (ps_ur σ 42 (va_cpy (σ.1 k1) (σ.1 42) (Int32.toNatClampNeg (0 : Int32)) (Int32.toNatClampNeg (0 : Int32)) (Int32.toNatClampNeg (256 : Int32)))) fun σ2 =>
  (ps_cc (0 : Int32) (0 : Int32) (256 : Int32) (ps_ln k2) 256 (ps_let (ps_ur σ2 43 (va_cpy (σ2.1 k2) (σ2.1 43) (Int32.toNatClampNeg (0 : Int32)) (Int32.toNatClampNeg (0 : Int32)) (Int32.toNatClampNeg (256 : Int32)))) fun σ4 =>
  ((fX4_transform 42 (σ4.1 1 0) a3 (0 : Int32) σ4).bind fun q5 =>
  ((fX4_transform 43 (q5.1 1 0) a3 (0 : Int32) q5).bind fun q6 =>
  ((ps_lp (fun s => fX4_multiplyTransformed_S61 a3 s.1 s.2) 100000 ((0 : Int32), q6)).bind fun e14 =>
  ((fX4_transform 42 (e14.1 1 0) a3 (1 : Int32) e14).bind fun q15 =>
  some q15))))))))
set_option maxHeartbeats 4000000 in
set_option maxRecDepth 100000 in
theorem tX4_multiplyTransformed {z : ps_X} (C : ps_C z cX4_multiplyTransformed 5 "PartSums") (Z : ps_Z z 3 100) {k1 : Nat} {k2 : Nat} {a3 : Int32} {σ : ps_S} (hk1 : ps_kd k1 = 1) (hk2 : ps_kd k2 = 1) {r : ps_S} (h : fX4_multiplyTransformed k1 k2 a3 σ = some r) (k : ps_KV z 5 cX4_multiplyTransformed r) : ps_at z 5 0 [(0, .ref (z_ad z 0)), (1, .ref (z_ad z k1)), (2, .ref (z_ad z k2)), (3, .int a3)] [] σ := by
  unfold fX4_multiplyTransformed at h
  refine ps_aload_n C (pc := 0) dX4_multiplyTransformed_0 1 rfl ?_
  refine ps_iconst C (pc := 1) (v := 0) dX4_multiplyTransformed_1 (by decide) ?_
  refine ps_aload_n C (pc := 2) dX4_multiplyTransformed_2 0 rfl ?_
  refine pg_0_6 C (pc := 3) tw_212 dX4_multiplyTransformed_3 ?_
  refine ps_iconst C (pc := 6) (v := 0) dX4_multiplyTransformed_6 (by decide) ?_
  refine ps_sipush C (pc := 7) (v := 256) dX4_multiplyTransformed_7 (by decide) ?_
  obtain ⟨hi1, h⟩ := ps_cc_s h
  refine ps_copyZ C Z (pc := 10) k1 42 hk1 rfl rfl rfl hi1 tw_473 tw_373 tw_372 tw_77 (by decide) (Nat.le_of_ble_eq_true rfl) dX4_multiplyTransformed_10 h (fun σ2 h => ?_)
  refine ps_aload_n C (pc := 13) dX4_multiplyTransformed_13 2 rfl ?_
  refine ps_iconst C (pc := 14) (v := 0) dX4_multiplyTransformed_14 (by decide) ?_
  refine ps_aload_n C (pc := 15) dX4_multiplyTransformed_15 0 rfl ?_
  refine pg_0_7 C (pc := 16) tw_213 dX4_multiplyTransformed_16 ?_
  refine ps_iconst C (pc := 19) (v := 0) dX4_multiplyTransformed_19 (by decide) ?_
  refine ps_sipush C (pc := 20) (v := 256) dX4_multiplyTransformed_20 (by decide) ?_
  obtain ⟨hi3, h⟩ := ps_cc_s h
  refine ps_copyZ C Z (pc := 23) k2 43 hk2 rfl rfl rfl hi3 tw_473 tw_373 tw_372 tw_77 (by decide) (Nat.le_of_ble_eq_true rfl) dX4_multiplyTransformed_23 h (fun σ4 h => ?_)
  refine ps_aload_n C (pc := 26) dX4_multiplyTransformed_26 0 rfl ?_
  refine pg_0_6 C (pc := 27) tw_212 dX4_multiplyTransformed_27 ?_
  refine ps_aload_n C (pc := 30) dX4_multiplyTransformed_30 0 rfl ?_
  refine pg_0_0 C (pc := 31) tw_206 dX4_multiplyTransformed_31 ?_
  refine pg_1_0 C (pc := 34) tw_100 dX4_multiplyTransformed_34 ?_
  refine ps_iload_n C (pc := 37) dX4_multiplyTransformed_37 3 rfl ?_
  refine ps_iconst C (pc := 38) (v := 0) dX4_multiplyTransformed_38 (by decide) ?_
  obtain ⟨q5, hq5, h⟩ := ps_bd h
  refine ps_callSV C Z (pc := 39) (As := [.ref (z_ad z 42), .int (σ4.1 1 0), .int a3, .int (0 : Int32)]) (mX4_transform (by rfl) hq5) tw_486 tw_487 tw_65 tw_488 hdX4_transform rfl rfl ⟨by decide, by decide⟩ rfl (Nat.le_of_ble_eq_true rfl) dX4_multiplyTransformed_39 rfl ?_
  refine ps_aload_n C (pc := 42) dX4_multiplyTransformed_42 0 rfl ?_
  refine pg_0_7 C (pc := 43) tw_213 dX4_multiplyTransformed_43 ?_
  refine ps_aload_n C (pc := 46) dX4_multiplyTransformed_46 0 rfl ?_
  refine pg_0_0 C (pc := 47) tw_206 dX4_multiplyTransformed_47 ?_
  refine pg_1_0 C (pc := 50) tw_100 dX4_multiplyTransformed_50 ?_
  refine ps_iload_n C (pc := 53) dX4_multiplyTransformed_53 3 rfl ?_
  refine ps_iconst C (pc := 54) (v := 0) dX4_multiplyTransformed_54 (by decide) ?_
  obtain ⟨q6, hq6, h⟩ := ps_bd h
  refine ps_callSV C Z (pc := 55) (As := [.ref (z_ad z 43), .int (q5.1 1 0), .int a3, .int (0 : Int32)]) (mX4_transform (by rfl) hq6) tw_486 tw_487 tw_65 tw_488 hdX4_transform rfl rfl ⟨by decide, by decide⟩ rfl (Nat.le_of_ble_eq_true rfl) dX4_multiplyTransformed_55 rfl ?_
  refine ps_iconst C (pc := 58) (v := 0) dX4_multiplyTransformed_58 (by decide) ?_
  refine ps_istore C (pc := 59) (lv' := [(4, .int (0 : Int32)), (0, .ref (z_ad z 0)), (1, .ref (z_ad z k1)), (2, .ref (z_ad z k2)), (3, .int a3)]) dX4_multiplyTransformed_59 (by decide) rfl ?_
  obtain ⟨e14, he14, h⟩ := ps_bd h
  refine ps_sub [1, 4, 0] rfl ?_
  refine ps_loop (P := pX4_multiplyTransformed_S61 z a3) (K := qX4_multiplyTransformed_S61 z a3) (fun s r h k => tX4_multiplyTransformed_S61 C Z a3  s r h k) _ _ _ he14 ?_
  unfold qX4_multiplyTransformed_S61
  refine ps_aload_n C (pc := 104) dX4_multiplyTransformed_104 0 rfl ?_
  refine pg_0_6 C (pc := 105) tw_212 dX4_multiplyTransformed_105 ?_
  refine ps_aload_n C (pc := 108) dX4_multiplyTransformed_108 0 rfl ?_
  refine pg_0_0 C (pc := 109) tw_206 dX4_multiplyTransformed_109 ?_
  refine pg_1_0 C (pc := 112) tw_100 dX4_multiplyTransformed_112 ?_
  refine ps_iload_n C (pc := 115) dX4_multiplyTransformed_115 1 rfl ?_
  refine ps_iconst C (pc := 116) (v := 1) dX4_multiplyTransformed_116 (by decide) ?_
  obtain ⟨q15, hq15, h⟩ := ps_bd h
  refine ps_callSV C Z (pc := 117) (As := [.ref (z_ad z 42), .int (e14.1 1 0), .int a3, .int (1 : Int32)]) (mX4_transform (by rfl) hq15) tw_486 tw_487 tw_65 tw_488 hdX4_transform rfl rfl ⟨by decide, by decide⟩ rfl (Nat.le_of_ble_eq_true rfl) dX4_multiplyTransformed_117 rfl ?_
  obtain rfl := Option.some.inj h
  exact k _ _ dX4_multiplyTransformed_120
def rmX4_multiplyTransformed : Room := { frames := 3, cells := 0, slots := 0, locals := 100 }
theorem mX4_multiplyTransformed {l : Launch} {E : ps_E} {σ : ps_S} {k1 : Nat} {k2 : Nat} {a3 : Int32} {r : ps_S} (hk1 : ps_kd k1 = 1) (hk2 : ps_kd k2 = 1) (h : fX4_multiplyTransformed k1 k2 a3 σ = some r) : ps_MV l yX4_multiplyTransformed (ps_wm yX4_multiplyTransformed cX4_multiplyTransformed 5 none) rmX4_multiplyTransformed [.ref (e_ad E 0), .ref (e_ad E k1), .ref (e_ad E k2), .int a3] E σ r :=
  ps_metV yX4_multiplyTransformed rmX4_multiplyTransformed 5 (own := "PartSums")  (by decide +kernel) rfl (Nat.le_of_ble_eq_true rfl) rfl (fun z e1 e2 e3 e4 e5 C k => by
    subst e5
    exact tX4_multiplyTransformed C (ps_Zof e1 e3 e4) hk1 hk2 h k)
theorem hdX4_multiplyTransformed : yX4_multiplyTransformed.cls ≠ "java/lang/invoke/MethodHandle" ∧ yX4_multiplyTransformed.cls ≠ "java/lang/invoke/VarHandle" ∧ (parseMethodDescriptor yX4_multiplyTransformed.desc).map (fun d => d.parameters.length) = some 3 := by decide +kernel
def fX4_measurePairs (a1 : Int32) (a2 : Int32) (k3 : Nat) (σ : ps_S) : Option (Int32) :=
  ((fX4_leastThing a2).bind fun q1 =>
  (ps_let (a2 &&& (a2 - (1 : Int32))) fun x2 =>
  ((fX1_mates q1 σ).bind fun q3 =>
  (ps_let (q3 &&& x2) fun x4 =>
  (if a1 = (2 : Int32) then (if x4 = 0 then (ps_ck x2 (ps_ln k3) (some (σ.1 k3 (Int32.toNatClampNeg x2))))
  else some (0 : Int32))
  else (if a1 = (3 : Int32) then (if x4 = x2 then (ps_ck x2 (ps_ln k3) (some (σ.1 k3 (Int32.toNatClampNeg x2))))
  else some (0 : Int32))
  else (ps_ck x2 (ps_ln k3) (((fJ6_bitCount_0f7a4 x4).bind fun q6 =>
  some ((σ.1 k3 (Int32.toNatClampNeg x2)) <<< (q6 &&& 31)))))))))))
set_option maxHeartbeats 4000000 in
set_option maxRecDepth 100000 in
theorem tX4_measurePairs {z : ps_X} (C : ps_C z cX4_measurePairs 7 "PartSums") (Z : ps_Z z 1 21) {a1 : Int32} {a2 : Int32} {k3 : Nat} {σ : ps_S} (hk3 : ps_kd k3 = 1) {r : Int32} (h : fX4_measurePairs a1 a2 k3 σ = some r) (k : ps_KI z 7 cX4_measurePairs r σ) : ps_at z 7 0 [(0, .ref (z_ad z 1)), (1, .int a1), (2, .int a2), (3, .ref (z_ad z k3))] [] σ := by
  unfold fX4_measurePairs at h
  refine ps_iload_n C (pc := 0) dX4_measurePairs_0 2 rfl ?_
  obtain ⟨q1, hq1, h⟩ := ps_bd h
  refine ps_callSI C Z (pc := 1) (As := [.int a2]) (mX4_leastThing  hq1) tw_464 tw_365 tw_65 tw_366 hdX4_leastThing rfl rfl ⟨by decide, by decide⟩ rfl (Nat.le_of_ble_eq_true rfl) dX4_measurePairs_1 rfl ?_
  refine ps_istore C (pc := 4) (lv' := [(4, .int q1), (0, .ref (z_ad z 1)), (1, .int a1), (2, .int a2), (3, .ref (z_ad z k3))]) dX4_measurePairs_4 (by decide) rfl ?_
  refine ps_iload_n C (pc := 6) dX4_measurePairs_6 3 rfl ?_
  refine ps_iload_n C (pc := 7) dX4_measurePairs_7 3 rfl ?_
  refine ps_iconst C (pc := 8) (v := 1) dX4_measurePairs_8 (by decide) ?_
  refine ps_isub C (pc := 9) dX4_measurePairs_9 ?_
  refine ps_iand C (pc := 10) dX4_measurePairs_10 ?_
  refine ps_istoreL C (pc := 11) (lw := fun x2 => [(5, .int x2), (4, .int q1), (0, .ref (z_ad z 1)), (1, .int a1), (2, .int a2), (3, .ref (z_ad z k3))]) dX4_measurePairs_11 (by decide) (fun _ => rfl) h (fun x2 h => ?_)
  refine ps_aload_n C (pc := 13) dX4_measurePairs_13 2 rfl ?_
  refine ps_iload C (pc := 14) dX4_measurePairs_14 1 rfl ?_
  obtain ⟨q3, hq3, h⟩ := ps_bd h
  refine ps_callVI C Z (pc := 16) (As := [.int q1]) (k0 := 1) (mX1_mates  hq3) (Cn := "PartSums$Ground") rfl tw_420 tw_421 tw_422 tw_66 tw_423 hdX1_mates rfl rfl ⟨by decide, by decide⟩ (by decide) ps_o1 rfl rfl (Nat.le_of_ble_eq_true rfl) dX4_measurePairs_16 rfl ?_
  refine ps_iload C (pc := 19) dX4_measurePairs_19 0 rfl ?_
  refine ps_iand C (pc := 21) dX4_measurePairs_21 ?_
  refine ps_istoreL C (pc := 22) (lw := fun x4 => [(6, .int x4), (5, .int x2), (4, .int q1), (0, .ref (z_ad z 1)), (1, .int a1), (2, .int a2), (3, .ref (z_ad z k3))]) dX4_measurePairs_22 (by decide) (fun _ => rfl) h (fun x4 h => ?_)
  refine ps_iload_n C (pc := 24) dX4_measurePairs_24 4 rfl ?_
  refine ps_iconst C (pc := 25) (v := 2) dX4_measurePairs_25 (by decide) ?_
  refine ps_icmp_ne C (pc := 26) 43 dX4_measurePairs_26 (by decide) (fun hc => ?_) (fun hc => ?_)
  · have h := ps_iff hc h
    refine ps_iload_n C (pc := 43) dX4_measurePairs_43 4 rfl ?_
    refine ps_iconst C (pc := 44) (v := 3) dX4_measurePairs_44 (by decide) ?_
    refine ps_icmp_ne C (pc := 45) 64 dX4_measurePairs_45 (by decide) (fun hc => ?_) (fun hc => ?_)
    · have h := ps_iff hc h
      refine ps_aload_n C (pc := 64) dX4_measurePairs_64 6 rfl ?_
      refine ps_iload C (pc := 65) dX4_measurePairs_65 1 rfl ?_
      obtain ⟨hi5, h⟩ := ps_ck_s h
      refine ps_iald C (pc := 67) k3 hk3 rfl hi5 dX4_measurePairs_67 ?_
      refine ps_iload C (pc := 68) dX4_measurePairs_68 0 rfl ?_
      obtain ⟨q6, hq6, h⟩ := ps_bd h
      refine ps_callSI C Z (pc := 70) (As := [.int x4]) (mJ6_bitCount_0f7a4  hq6) tw_465 tw_359 tw_76 tw_360 hdJ6_bitCount_0f7a4 rfl rfl ⟨by decide, by decide⟩ rfl (Nat.le_of_ble_eq_true rfl) dX4_measurePairs_70 rfl ?_
      refine ps_ishl C (pc := 73) dX4_measurePairs_73 ?_
      obtain rfl := Option.some.inj h
      exact k _ _ dX4_measurePairs_74
    · have h := ps_ift hc h
      refine ps_iload C (pc := 48) dX4_measurePairs_48 0 rfl ?_
      refine ps_iload C (pc := 50) dX4_measurePairs_50 1 rfl ?_
      refine ps_icmp_ne C (pc := 52) 62 dX4_measurePairs_52 (by decide) (fun hc => ?_) (fun hc => ?_)
      · have h := ps_iff hc h
        refine ps_iconst C (pc := 62) (v := 0) dX4_measurePairs_62 (by decide) ?_
        obtain rfl := Option.some.inj h
        exact k _ _ dX4_measurePairs_63
      · have h := ps_ift hc h
        refine ps_aload_n C (pc := 55) dX4_measurePairs_55 6 rfl ?_
        refine ps_iload C (pc := 56) dX4_measurePairs_56 1 rfl ?_
        obtain ⟨hi7, h⟩ := ps_ck_s h
        refine ps_iald C (pc := 58) k3 hk3 rfl hi7 dX4_measurePairs_58 ?_
        refine ps_goto C (pc := 59) 63 dX4_measurePairs_59 (by decide) ?_
        obtain rfl := Option.some.inj h
        exact k _ _ dX4_measurePairs_63
  · have h := ps_ift hc h
    refine ps_iload C (pc := 29) dX4_measurePairs_29 0 rfl ?_
    refine ps_if_ne C (pc := 31) 41 dX4_measurePairs_31 (by decide) (fun hc => ?_) (fun hc => ?_)
    · have h := ps_iff hc h
      refine ps_iconst C (pc := 41) (v := 0) dX4_measurePairs_41 (by decide) ?_
      obtain rfl := Option.some.inj h
      exact k _ _ dX4_measurePairs_42
    · have h := ps_ift hc h
      refine ps_aload_n C (pc := 34) dX4_measurePairs_34 6 rfl ?_
      refine ps_iload C (pc := 35) dX4_measurePairs_35 1 rfl ?_
      obtain ⟨hi8, h⟩ := ps_ck_s h
      refine ps_iald C (pc := 37) k3 hk3 rfl hi8 dX4_measurePairs_37 ?_
      refine ps_goto C (pc := 38) 42 dX4_measurePairs_38 (by decide) ?_
      obtain rfl := Option.some.inj h
      exact k _ _ dX4_measurePairs_42
def rmX4_measurePairs : Room := { frames := 1, cells := 0, slots := 0, locals := 21 }
theorem mX4_measurePairs {l : Launch} {E : ps_E} {σ : ps_S} {a1 : Int32} {a2 : Int32} {k3 : Nat} {r : Int32} (hk3 : ps_kd k3 = 1) (h : fX4_measurePairs a1 a2 k3 σ = some r) : ps_MI l yX4_measurePairs (ps_wm yX4_measurePairs cX4_measurePairs 7 (some .int)) rmX4_measurePairs [.ref (e_ad E 1), .int a1, .int a2, .ref (e_ad E k3)] E σ r σ :=
  ps_metI yX4_measurePairs rmX4_measurePairs 7 (own := "PartSums") r (by decide +kernel) rfl (Nat.le_of_ble_eq_true rfl) rfl (fun z e1 e2 e3 e4 e5 C k => by
    subst e5
    exact tX4_measurePairs C (ps_Zof e1 e3 e4) hk3 h k)
theorem hdX4_measurePairs : yX4_measurePairs.cls ≠ "java/lang/invoke/MethodHandle" ∧ yX4_measurePairs.cls ≠ "java/lang/invoke/VarHandle" ∧ (parseMethodDescriptor yX4_measurePairs.desc).map (fun d => d.parameters.length) = some 4 := by decide +kernel
def pX4_hangsWhole_S2 (z : ps_X) (a1 : Int32) (k2 : Nat) (σ : ps_S) (s : Int32) : Prop := ps_at z 5 2 [(0, .ref (z_ad z 1)), (1, .int a1), (2, .ref (z_ad z k2)), (3, .int s)] [] σ
def qX4_hangsWhole_S2 (z : ps_X) (a1 : Int32) (k2 : Nat) (σ : ps_S) (x : (Unit) ⊕ (Unit) ⊕ (Unit)) : Prop := match x with | .inl y => ps_at z 5 22 [] [] σ | .inr (.inl y) => ps_at z 5 49 [] [] σ | .inr (.inr y) => ps_at z 5 57 [] [] σ
def fX4_hangsWhole_J51 (a1 : Int32) (k2 : Nat) (a3 : Int32) (σ : ps_S) : Option ((Int32) ⊕ ((Unit) ⊕ (Unit) ⊕ (Unit))) :=
  (ps_let (a3 + (1 : Int32)) fun x2 =>
  some (.inl x2))
set_option maxHeartbeats 4000000 in
set_option maxRecDepth 100000 in
theorem tX4_hangsWhole_J51 {z : ps_X} (C : ps_C z cX4_hangsWhole 5 "PartSums") (Z : ps_Z z 1 21) {a1 : Int32} {k2 : Nat} {a3 : Int32} {σ : ps_S} (hk2 : ps_kd k2 = 1) {r : (Int32) ⊕ ((Unit) ⊕ (Unit) ⊕ (Unit))} (h : fX4_hangsWhole_J51 a1 k2 a3 σ = some r) (k : ps_k (pX4_hangsWhole_S2 z a1 k2 σ) (qX4_hangsWhole_S2 z a1 k2 σ) r) : ps_at z 5 51 [(0, .ref (z_ad z 1)), (1, .int a1), (2, .ref (z_ad z k2)), (3, .int a3)] [] σ := by
  unfold fX4_hangsWhole_J51 at h
  refine ps_iincL C (pc := 51) (zz := 1) (lw := fun x2 => [(3, .int x2), (0, .ref (z_ad z 1)), (1, .int a1), (2, .ref (z_ad z k2))]) dX4_hangsWhole_51 3 rfl (by decide) (by decide) (fun _ => rfl) h (fun x2 h => ?_)
  refine ps_goto C (pc := 54) 2 dX4_hangsWhole_54 (by decide) ?_
  obtain rfl := Option.some.inj h
  exact ps_sub [1, 2, 3, 0] rfl k
def fX4_hangsWhole_S2 (a1 : Int32) (k2 : Nat) (σ : ps_S) (a3 : Int32) : Option ((Int32) ⊕ ((Unit) ⊕ (Unit) ⊕ (Unit))) :=
  (if (σ.1 1 0) ≤ a3 then some (.inr (.inr (.inr ())))
  else (ps_let (a1 ^^^ ((1 : Int32) <<< (a3 &&& 31))) fun x1 =>
  (if x1 = 0 then some (.inr (.inl ()))
  else (if a1 ≤ x1 then fX4_hangsWhole_J51 a1 k2 a3 σ
  else (ps_ck x1 (ps_ln k2) ((if (σ.1 k2 (Int32.toNatClampNeg x1)) = (1 : Int32) then ((fX1_mates a3 σ).bind fun q4 =>
  (if (q4 &&& x1) = 0 then fX4_hangsWhole_J51 a1 k2 a3 σ
  else some (.inr (.inr (.inl ())))))
  else fX4_hangsWhole_J51 a1 k2 a3 σ)))))))
set_option maxHeartbeats 4000000 in
set_option maxRecDepth 100000 in
theorem tX4_hangsWhole_S2 {z : ps_X} (C : ps_C z cX4_hangsWhole 5 "PartSums") (Z : ps_Z z 1 21) (a1 : Int32) (k2 : Nat) (σ : ps_S) (hk2 : ps_kd k2 = 1) (s : Int32) (r : (Int32) ⊕ ((Unit) ⊕ (Unit) ⊕ (Unit))) (h : fX4_hangsWhole_S2 a1 k2 σ s = some r) (k : ps_k (pX4_hangsWhole_S2 z a1 k2 σ) (qX4_hangsWhole_S2 z a1 k2 σ) r) : pX4_hangsWhole_S2 z a1 k2 σ s := by
  generalize s = a3 at h ⊢
  unfold fX4_hangsWhole_S2 at h
  unfold pX4_hangsWhole_S2
  refine ps_iload_n C (pc := 2) dX4_hangsWhole_2 3 rfl ?_
  refine ps_aload_n C (pc := 3) dX4_hangsWhole_3 0 rfl ?_
  refine pg_1_0 C (pc := 4) tw_100 dX4_hangsWhole_4 ?_
  refine ps_icmp_ge C (pc := 7) 57 dX4_hangsWhole_7 (by decide) (fun hc => ?_) (fun hc => ?_)
  · have h := ps_ift hc h
    obtain rfl := Option.some.inj h
    exact ps_sub [] rfl k
  · have h := ps_iff hc h
    refine ps_iload_n C (pc := 10) dX4_hangsWhole_10 1 rfl ?_
    refine ps_iconst C (pc := 11) (v := 1) dX4_hangsWhole_11 (by decide) ?_
    refine ps_iload_n C (pc := 12) dX4_hangsWhole_12 3 rfl ?_
    refine ps_ishl C (pc := 13) dX4_hangsWhole_13 ?_
    refine ps_ixor C (pc := 14) dX4_hangsWhole_14 ?_
    refine ps_istoreL C (pc := 15) (lw := fun x1 => [(4, .int x1), (0, .ref (z_ad z 1)), (1, .int a1), (2, .ref (z_ad z k2)), (3, .int a3)]) dX4_hangsWhole_15 (by decide) (fun _ => rfl) h (fun x1 h => ?_)
    refine ps_iload C (pc := 17) dX4_hangsWhole_17 0 rfl ?_
    refine ps_if_ne C (pc := 19) 24 dX4_hangsWhole_19 (by decide) (fun hc => ?_) (fun hc => ?_)
    · have h := ps_iff hc h
      refine ps_iload C (pc := 24) dX4_hangsWhole_24 0 rfl ?_
      refine ps_iload_n C (pc := 26) dX4_hangsWhole_26 2 rfl ?_
      refine ps_icmp_ge C (pc := 27) 51 dX4_hangsWhole_27 (by decide) (fun hc => ?_) (fun hc => ?_)
      · have h := ps_ift hc h
        exact ps_sub [1, 2, 3, 4] rfl (tX4_hangsWhole_J51 C Z hk2 h k)
      · have h := ps_iff hc h
        refine ps_aload_n C (pc := 30) dX4_hangsWhole_30 3 rfl ?_
        refine ps_iload C (pc := 31) dX4_hangsWhole_31 0 rfl ?_
        obtain ⟨hi3, h⟩ := ps_ck_s h
        refine ps_iald C (pc := 33) k2 hk2 rfl hi3 dX4_hangsWhole_33 ?_
        refine ps_iconst C (pc := 34) (v := 1) dX4_hangsWhole_34 (by decide) ?_
        refine ps_icmp_ne C (pc := 35) 51 dX4_hangsWhole_35 (by decide) (fun hc => ?_) (fun hc => ?_)
        · have h := ps_iff hc h
          exact ps_sub [1, 2, 3, 4] rfl (tX4_hangsWhole_J51 C Z hk2 h k)
        · have h := ps_ift hc h
          refine ps_aload_n C (pc := 38) dX4_hangsWhole_38 1 rfl ?_
          refine ps_iload_n C (pc := 39) dX4_hangsWhole_39 4 rfl ?_
          obtain ⟨q4, hq4, h⟩ := ps_bd h
          refine ps_callVI C Z (pc := 40) (As := [.int a3]) (k0 := 1) (mX1_mates  hq4) (Cn := "PartSums$Ground") rfl tw_420 tw_421 tw_422 tw_66 tw_423 hdX1_mates rfl rfl ⟨by decide, by decide⟩ (by decide) ps_o1 rfl rfl (Nat.le_of_ble_eq_true rfl) dX4_hangsWhole_40 rfl ?_
          refine ps_iload C (pc := 43) dX4_hangsWhole_43 0 rfl ?_
          refine ps_iand C (pc := 45) dX4_hangsWhole_45 ?_
          refine ps_if_eq C (pc := 46) 51 dX4_hangsWhole_46 (by decide) (fun hc => ?_) (fun hc => ?_)
          · have h := ps_ift hc h
            exact ps_sub [1, 2, 3, 4] rfl (tX4_hangsWhole_J51 C Z hk2 h k)
          · have h := ps_iff hc h
            obtain rfl := Option.some.inj h
            exact ps_sub [] rfl k
    · have h := ps_ift hc h
      obtain rfl := Option.some.inj h
      exact ps_sub [] rfl k
def fX4_hangsWhole (a1 : Int32) (k2 : Nat) (σ : ps_S) : Option (Int32) :=
  ((ps_lp (fun s => fX4_hangsWhole_S2 a1 k2 σ s) 100000 (0 : Int32)).bind fun e5 =>
  match e5 with | .inl y6 => some (1 : Int32) | .inr (.inl y7) => some (1 : Int32) | .inr (.inr y8) => some (0 : Int32))
set_option maxHeartbeats 4000000 in
set_option maxRecDepth 100000 in
theorem tX4_hangsWhole {z : ps_X} (C : ps_C z cX4_hangsWhole 5 "PartSums") (Z : ps_Z z 1 21) {a1 : Int32} {k2 : Nat} {σ : ps_S} (hk2 : ps_kd k2 = 1) {r : Int32} (h : fX4_hangsWhole a1 k2 σ = some r) (k : ps_KZ z 5 cX4_hangsWhole r σ) : ps_at z 5 0 [(0, .ref (z_ad z 1)), (1, .int a1), (2, .ref (z_ad z k2))] [] σ := by
  unfold fX4_hangsWhole at h
  refine ps_iconst C (pc := 0) (v := 0) dX4_hangsWhole_0 (by decide) ?_
  refine ps_istore_n C (pc := 1) (lv' := [(3, .int (0 : Int32)), (0, .ref (z_ad z 1)), (1, .int a1), (2, .ref (z_ad z k2))]) dX4_hangsWhole_1 (by decide) rfl ?_
  obtain ⟨e5, he5, h⟩ := ps_bd h
  refine ps_sub [1, 2, 3, 0] rfl ?_
  refine ps_loop (P := pX4_hangsWhole_S2 z a1 k2 σ) (K := qX4_hangsWhole_S2 z a1 k2 σ) (fun s r h k => tX4_hangsWhole_S2 C Z a1 k2 σ hk2 s r h k) _ _ _ he5 ?_
  unfold qX4_hangsWhole_S2
  rcases e5 with y6 | w_y6
  · refine ps_iconst C (pc := 22) (v := 1) dX4_hangsWhole_22 (by decide) ?_
    obtain rfl := Option.some.inj h
    exact k _ _ (Or.inr rfl) dX4_hangsWhole_23
  · rcases w_y6 with y7 | w_y7
    · refine ps_iconst C (pc := 49) (v := 1) dX4_hangsWhole_49 (by decide) ?_
      obtain rfl := Option.some.inj h
      exact k _ _ (Or.inr rfl) dX4_hangsWhole_50
    · generalize w_y7 = y8 at h ⊢
      refine ps_iconst C (pc := 57) (v := 0) dX4_hangsWhole_57 (by decide) ?_
      obtain rfl := Option.some.inj h
      exact k _ _ (Or.inl rfl) dX4_hangsWhole_58
def rmX4_hangsWhole : Room := { frames := 1, cells := 0, slots := 0, locals := 21 }
theorem mX4_hangsWhole {l : Launch} {E : ps_E} {σ : ps_S} {a1 : Int32} {k2 : Nat} {r : Int32} (hk2 : ps_kd k2 = 1) (h : fX4_hangsWhole a1 k2 σ = some r) : ps_MI l yX4_hangsWhole (ps_wm yX4_hangsWhole cX4_hangsWhole 5 (some .boolean)) rmX4_hangsWhole [.ref (e_ad E 1), .int a1, .ref (e_ad E k2)] E σ r σ :=
  ps_metZ yX4_hangsWhole rmX4_hangsWhole 5 (own := "PartSums") r (by decide +kernel) rfl (Nat.le_of_ble_eq_true rfl) rfl (fun z e1 e2 e3 e4 e5 C k => by
    subst e5
    exact tX4_hangsWhole C (ps_Zof e1 e3 e4) hk2 h k)
theorem hdX4_hangsWhole : yX4_hangsWhole.cls ≠ "java/lang/invoke/MethodHandle" ∧ yX4_hangsWhole.cls ≠ "java/lang/invoke/VarHandle" ∧ (parseMethodDescriptor yX4_hangsWhole.desc).map (fun d => d.parameters.length) = some 3 := by decide +kernel
def fX4_measureSet_J70 (a1 : Int32) (a2 : Int32) (k3 : Nat) (σ : ps_S) : Option (Int32) :=
  (if a2 = 0 then some (1 : Int32)
  else ((fX4_measurePairs a1 a2 k3 σ).bind fun q5 =>
  some q5))
set_option maxHeartbeats 4000000 in
set_option maxRecDepth 100000 in
theorem tX4_measureSet_J70 {z : ps_X} (C : ps_C z cX4_measureSet 4 "PartSums") (Z : ps_Z z 2 47) {a1 : Int32} {a2 : Int32} {k3 : Nat} {σ : ps_S} (hk3 : ps_kd k3 = 1) {r : Int32} (h : fX4_measureSet_J70 a1 a2 k3 σ = some r) (k : ps_KI z 4 cX4_measureSet r σ) : ps_at z 4 70 [(0, .ref (z_ad z 1)), (1, .int a1), (2, .int a2), (3, .ref (z_ad z k3))] [] σ := by
  unfold fX4_measureSet_J70 at h
  refine ps_iload_n C (pc := 70) dX4_measureSet_70 2 rfl ?_
  refine ps_if_ne C (pc := 71) 78 dX4_measureSet_71 (by decide) (fun hc => ?_) (fun hc => ?_)
  · have h := ps_iff hc h
    refine ps_aload_n C (pc := 78) dX4_measureSet_78 0 rfl ?_
    refine ps_iload_n C (pc := 79) dX4_measureSet_79 1 rfl ?_
    refine ps_iload_n C (pc := 80) dX4_measureSet_80 2 rfl ?_
    refine ps_aload_n C (pc := 81) dX4_measureSet_81 3 rfl ?_
    obtain ⟨q5, hq5, h⟩ := ps_bd h
    refine ps_callSI C Z (pc := 82) (As := [.ref (z_ad z 1), .int a1, .int a2, .ref (z_ad z k3)]) (mX4_measurePairs hk3 hq5) tw_461 tw_462 tw_65 tw_463 hdX4_measurePairs rfl rfl ⟨by decide, by decide⟩ rfl (Nat.le_of_ble_eq_true rfl) dX4_measureSet_82 rfl ?_
    obtain rfl := Option.some.inj h
    exact k _ _ dX4_measureSet_85
  · have h := ps_ift hc h
    refine ps_iconst C (pc := 74) (v := 1) dX4_measureSet_74 (by decide) ?_
    refine ps_goto C (pc := 75) 85 dX4_measureSet_75 (by decide) ?_
    obtain rfl := Option.some.inj h
    exact k _ _ dX4_measureSet_85
def fX4_measureSet (a1 : Int32) (a2 : Int32) (k3 : Nat) (σ : ps_S) : Option (Int32) :=
  (if a1 = (0 : Int32) then (ps_ck (4 : Int32) 5 ((ps_ck a2 256 (some (σ.1 (2 + 1 + (Int32.toNatClampNeg (4 : Int32))) (Int32.toNatClampNeg a2))))))
  else (if a1 = (1 : Int32) then (ps_ck (4 : Int32) 5 ((ps_ck a2 256 ((if (σ.1 (2 + 1 + (Int32.toNatClampNeg (4 : Int32))) (Int32.toNatClampNeg a2)) ≤ 0 then some (0 : Int32)
  else some (1 : Int32))))))
  else (if a1 = (2 : Int32) then fX4_measureSet_J70 a1 a2 k3 σ
  else (if a1 = (3 : Int32) then fX4_measureSet_J70 a1 a2 k3 σ
  else (if a1 = (4 : Int32) then fX4_measureSet_J70 a1 a2 k3 σ
  else (if a1 = (5 : Int32) then ((fX4_hangsWhole a2 k3 σ).bind fun q6 =>
  (if q6 = 0 then some (0 : Int32)
  else some (1 : Int32)))
  else (if a1 = (6 : Int32) then ((fJ6_bitCount_0f7a4 a2).bind fun q7 =>
  some q7)
  else (if a2 = 0 then some (1 : Int32)
  else some (0 : Int32)))))))))
set_option maxHeartbeats 4000000 in
set_option maxRecDepth 100000 in
theorem tX4_measureSet {z : ps_X} (C : ps_C z cX4_measureSet 4 "PartSums") (Z : ps_Z z 2 47) {a1 : Int32} {a2 : Int32} {k3 : Nat} {σ : ps_S} (hk3 : ps_kd k3 = 1) {r : Int32} (h : fX4_measureSet a1 a2 k3 σ = some r) (k : ps_KI z 4 cX4_measureSet r σ) : ps_at z 4 0 [(0, .ref (z_ad z 1)), (1, .int a1), (2, .int a2), (3, .ref (z_ad z k3))] [] σ := by
  unfold fX4_measureSet at h
  refine ps_iload_n C (pc := 0) dX4_measureSet_0 1 rfl ?_
  by_cases hc1_0 : a1 = (0 : Int32)
  · have h := ps_ift hc1_0 h
    refine ps_tsw C (pc := 1) 0 hc1_0 44 dX4_measureSet_1 (by decide) (by decide) (by rfl) (by decide) ?_
    refine ps_aload_n C (pc := 44) dX4_measureSet_44 0 rfl ?_
    refine pg_1_3 C (pc := 45) tw_106 dX4_measureSet_45 ?_
    refine ps_iconst C (pc := 48) (v := 4) dX4_measureSet_48 (by decide) ?_
    obtain ⟨hi1, h⟩ := ps_ck_s h
    refine ps_aald C (pc := 49) 2 rfl rfl hi1 dX4_measureSet_49 ?_
    refine ps_iload_n C (pc := 50) dX4_measureSet_50 2 rfl ?_
    obtain ⟨hi2, h⟩ := ps_ck_s h
    refine ps_iald C (pc := 51) (2 + 1 + (Int32.toNatClampNeg (4 : Int32))) (ps_rw2 hi1).1 (ps_rw2 hi1).2 hi2 dX4_measureSet_51 ?_
    obtain rfl := Option.some.inj h
    exact k _ _ dX4_measureSet_52
  replace h := ps_iff hc1_0 h
  by_cases hc1_1 : a1 = (1 : Int32)
  · have h := ps_ift hc1_1 h
    refine ps_tsw C (pc := 1) 1 hc1_1 53 dX4_measureSet_1 (by decide) (by decide) (by rfl) (by decide) ?_
    refine ps_aload_n C (pc := 53) dX4_measureSet_53 0 rfl ?_
    refine pg_1_3 C (pc := 54) tw_106 dX4_measureSet_54 ?_
    refine ps_iconst C (pc := 57) (v := 4) dX4_measureSet_57 (by decide) ?_
    obtain ⟨hi3, h⟩ := ps_ck_s h
    refine ps_aald C (pc := 58) 2 rfl rfl hi3 dX4_measureSet_58 ?_
    refine ps_iload_n C (pc := 59) dX4_measureSet_59 2 rfl ?_
    obtain ⟨hi4, h⟩ := ps_ck_s h
    refine ps_iald C (pc := 60) (2 + 1 + (Int32.toNatClampNeg (4 : Int32))) (ps_rw2 hi3).1 (ps_rw2 hi3).2 hi4 dX4_measureSet_60 ?_
    refine ps_if_le C (pc := 61) 68 dX4_measureSet_61 (by decide) (fun hc => ?_) (fun hc => ?_)
    · have h := ps_ift hc h
      refine ps_iconst C (pc := 68) (v := 0) dX4_measureSet_68 (by decide) ?_
      obtain rfl := Option.some.inj h
      exact k _ _ dX4_measureSet_69
    · have h := ps_iff hc h
      refine ps_iconst C (pc := 64) (v := 1) dX4_measureSet_64 (by decide) ?_
      refine ps_goto C (pc := 65) 69 dX4_measureSet_65 (by decide) ?_
      obtain rfl := Option.some.inj h
      exact k _ _ dX4_measureSet_69
  replace h := ps_iff hc1_1 h
  by_cases hc1_2 : a1 = (2 : Int32)
  · have h := ps_ift hc1_2 h
    refine ps_tsw C (pc := 1) 2 hc1_2 70 dX4_measureSet_1 (by decide) (by decide) (by rfl) (by decide) ?_
    exact ps_sub [0, 1, 2, 3] rfl (tX4_measureSet_J70 C Z hk3 h k)
  replace h := ps_iff hc1_2 h
  by_cases hc1_3 : a1 = (3 : Int32)
  · have h := ps_ift hc1_3 h
    refine ps_tsw C (pc := 1) 3 hc1_3 70 dX4_measureSet_1 (by decide) (by decide) (by rfl) (by decide) ?_
    exact ps_sub [0, 1, 2, 3] rfl (tX4_measureSet_J70 C Z hk3 h k)
  replace h := ps_iff hc1_3 h
  by_cases hc1_4 : a1 = (4 : Int32)
  · have h := ps_ift hc1_4 h
    refine ps_tsw C (pc := 1) 4 hc1_4 70 dX4_measureSet_1 (by decide) (by decide) (by rfl) (by decide) ?_
    exact ps_sub [0, 1, 2, 3] rfl (tX4_measureSet_J70 C Z hk3 h k)
  replace h := ps_iff hc1_4 h
  by_cases hc1_5 : a1 = (5 : Int32)
  · have h := ps_ift hc1_5 h
    refine ps_tsw C (pc := 1) 5 hc1_5 86 dX4_measureSet_1 (by decide) (by decide) (by rfl) (by decide) ?_
    refine ps_aload_n C (pc := 86) dX4_measureSet_86 0 rfl ?_
    refine ps_iload_n C (pc := 87) dX4_measureSet_87 2 rfl ?_
    refine ps_aload_n C (pc := 88) dX4_measureSet_88 3 rfl ?_
    obtain ⟨q6, hq6, h⟩ := ps_bd h
    refine ps_callSI C Z (pc := 89) (As := [.ref (z_ad z 1), .int a2, .ref (z_ad z k3)]) (mX4_hangsWhole hk3 hq6) tw_466 tw_467 tw_65 tw_468 hdX4_hangsWhole rfl rfl ⟨by decide, by decide⟩ rfl (Nat.le_of_ble_eq_true rfl) dX4_measureSet_89 rfl ?_
    refine ps_if_eq C (pc := 92) 99 dX4_measureSet_92 (by decide) (fun hc => ?_) (fun hc => ?_)
    · have h := ps_ift hc h
      refine ps_iconst C (pc := 99) (v := 0) dX4_measureSet_99 (by decide) ?_
      obtain rfl := Option.some.inj h
      exact k _ _ dX4_measureSet_100
    · have h := ps_iff hc h
      refine ps_iconst C (pc := 95) (v := 1) dX4_measureSet_95 (by decide) ?_
      refine ps_goto C (pc := 96) 100 dX4_measureSet_96 (by decide) ?_
      obtain rfl := Option.some.inj h
      exact k _ _ dX4_measureSet_100
  replace h := ps_iff hc1_5 h
  by_cases hc1_6 : a1 = (6 : Int32)
  · have h := ps_ift hc1_6 h
    refine ps_tsw C (pc := 1) 6 hc1_6 101 dX4_measureSet_1 (by decide) (by decide) (by rfl) (by decide) ?_
    refine ps_iload_n C (pc := 101) dX4_measureSet_101 2 rfl ?_
    obtain ⟨q7, hq7, h⟩ := ps_bd h
    refine ps_callSI C Z (pc := 102) (As := [.int a2]) (mJ6_bitCount_0f7a4  hq7) tw_465 tw_359 tw_76 tw_360 hdJ6_bitCount_0f7a4 rfl rfl ⟨by decide, by decide⟩ rfl (Nat.le_of_ble_eq_true rfl) dX4_measureSet_102 rfl ?_
    obtain rfl := Option.some.inj h
    exact k _ _ dX4_measureSet_105
  replace h := ps_iff hc1_6 h
  refine ps_tsd C (pc := 1) 106 dX4_measureSet_1 (by have q0 := ps_ni hc1_0 (n := 0) (by decide); have q1 := ps_ni hc1_1 (n := 1) (by decide); have q2 := ps_ni hc1_2 (n := 2) (by decide); have q3 := ps_ni hc1_3 (n := 3) (by decide); have q4 := ps_ni hc1_4 (n := 4) (by decide); have q5 := ps_ni hc1_5 (n := 5) (by decide); have q6 := ps_ni hc1_6 (n := 6) (by decide); omega) (by decide) ?_
  refine ps_iload_n C (pc := 106) dX4_measureSet_106 2 rfl ?_
  refine ps_if_ne C (pc := 107) 114 dX4_measureSet_107 (by decide) (fun hc => ?_) (fun hc => ?_)
  · have h := ps_iff hc h
    refine ps_iconst C (pc := 114) (v := 0) dX4_measureSet_114 (by decide) ?_
    obtain rfl := Option.some.inj h
    exact k _ _ dX4_measureSet_115
  · have h := ps_ift hc h
    refine ps_iconst C (pc := 110) (v := 1) dX4_measureSet_110 (by decide) ?_
    refine ps_goto C (pc := 111) 115 dX4_measureSet_111 (by decide) ?_
    obtain rfl := Option.some.inj h
    exact k _ _ dX4_measureSet_115
def rmX4_measureSet : Room := { frames := 2, cells := 0, slots := 0, locals := 47 }
theorem mX4_measureSet {l : Launch} {E : ps_E} {σ : ps_S} {a1 : Int32} {a2 : Int32} {k3 : Nat} {r : Int32} (hk3 : ps_kd k3 = 1) (h : fX4_measureSet a1 a2 k3 σ = some r) : ps_MI l yX4_measureSet (ps_wm yX4_measureSet cX4_measureSet 4 (some .int)) rmX4_measureSet [.ref (e_ad E 1), .int a1, .int a2, .ref (e_ad E k3)] E σ r σ :=
  ps_metI yX4_measureSet rmX4_measureSet 4 (own := "PartSums") r (by decide +kernel) rfl (Nat.le_of_ble_eq_true rfl) rfl (fun z e1 e2 e3 e4 e5 C k => by
    subst e5
    exact tX4_measureSet C (ps_Zof e1 e3 e4) hk3 h k)
theorem hdX4_measureSet : yX4_measureSet.cls ≠ "java/lang/invoke/MethodHandle" ∧ yX4_measureSet.cls ≠ "java/lang/invoke/VarHandle" ∧ (parseMethodDescriptor yX4_measureSet.desc).map (fun d => d.parameters.length) = some 4 := by decide +kernel
def pX4_measureAll_S2 (z : ps_X) (a1 : Int32) (k2 : Nat) (s : Int32 × ps_S) : Prop := ps_at z 4 2 [(0, .ref (z_ad z 1)), (1, .int a1), (2, .ref (z_ad z k2)), (3, .int s.1)] [] s.2
def qX4_measureAll_S2 (z : ps_X) (a1 : Int32) (k2 : Nat) (x : (ps_S)) : Prop := match x with | y => ps_at z 4 26 [] [] y
def fX4_measureAll_S2 (a1 : Int32) (k2 : Nat) (a3 : Int32) (σ : ps_S) : Option ((Int32 × ps_S) ⊕ ((ps_S))) :=
  ((fX1_countSets σ).bind fun q1 =>
  (if q1 ≤ a3 then some (.inr σ)
  else ((fX4_measureSet a1 a3 k2 σ).bind fun q2 =>
  (ps_ck a3 (ps_ln k2) ((ps_let (ps_ui σ k2 (Int32.toNatClampNeg a3) q2) fun σ4 =>
  (ps_let (a3 + (1 : Int32)) fun x5 =>
  some (.inl (x5, σ4)))))))))
set_option maxHeartbeats 4000000 in
set_option maxRecDepth 100000 in
theorem tX4_measureAll_S2 {z : ps_X} (C : ps_C z cX4_measureAll 4 "PartSums") (Z : ps_Z z 3 70) (a1 : Int32) (k2 : Nat) (hk2 : ps_kd k2 = 1) (s : Int32 × ps_S) (r : (Int32 × ps_S) ⊕ ((ps_S))) (h : fX4_measureAll_S2 a1 k2 s.1 s.2 = some r) (k : ps_k (pX4_measureAll_S2 z a1 k2) (qX4_measureAll_S2 z a1 k2) r) : pX4_measureAll_S2 z a1 k2 s := by
  obtain ⟨a3, σ⟩ := s
  unfold fX4_measureAll_S2 at h
  unfold pX4_measureAll_S2
  refine ps_iload_n C (pc := 2) dX4_measureAll_2 3 rfl ?_
  refine ps_aload_n C (pc := 3) dX4_measureAll_3 0 rfl ?_
  obtain ⟨q1, hq1, h⟩ := ps_bd h
  refine ps_callVI C Z (pc := 4) (As := []) (k0 := 1) (mX1_countSets  hq1) (Cn := "PartSums$Ground") rfl tw_457 tw_409 tw_410 tw_66 tw_411 hdX1_countSets rfl rfl ⟨by decide, by decide⟩ (by decide) ps_o1 rfl rfl (Nat.le_of_ble_eq_true rfl) dX4_measureAll_4 rfl ?_
  refine ps_icmp_ge C (pc := 7) 26 dX4_measureAll_7 (by decide) (fun hc => ?_) (fun hc => ?_)
  · have h := ps_ift hc h
    obtain rfl := Option.some.inj h
    exact ps_sub [] rfl k
  · have h := ps_iff hc h
    refine ps_aload_n C (pc := 10) dX4_measureAll_10 2 rfl ?_
    refine ps_iload_n C (pc := 11) dX4_measureAll_11 3 rfl ?_
    refine ps_aload_n C (pc := 12) dX4_measureAll_12 0 rfl ?_
    refine ps_iload_n C (pc := 13) dX4_measureAll_13 1 rfl ?_
    refine ps_iload_n C (pc := 14) dX4_measureAll_14 3 rfl ?_
    refine ps_aload_n C (pc := 15) dX4_measureAll_15 2 rfl ?_
    obtain ⟨q2, hq2, h⟩ := ps_bd h
    refine ps_callSI C Z (pc := 16) (As := [.ref (z_ad z 1), .int a1, .int a3, .ref (z_ad z k2)]) (mX4_measureSet hk2 hq2) tw_458 tw_459 tw_65 tw_460 hdX4_measureSet rfl rfl ⟨by decide, by decide⟩ rfl (Nat.le_of_ble_eq_true rfl) dX4_measureAll_16 rfl ?_
    obtain ⟨hi3, h⟩ := ps_ck_s h
    refine ps_iastL C (pc := 19) k2 hk2 rfl hi3 dX4_measureAll_19 h (fun σ4 h => ?_)
    refine ps_iincL C (pc := 20) (zz := 1) (lw := fun x5 => [(3, .int x5), (0, .ref (z_ad z 1)), (1, .int a1), (2, .ref (z_ad z k2))]) dX4_measureAll_20 3 rfl (by decide) (by decide) (fun _ => rfl) h (fun x5 h => ?_)
    refine ps_goto C (pc := 23) 2 dX4_measureAll_23 (by decide) ?_
    obtain rfl := Option.some.inj h
    exact ps_sub [1, 2, 3, 0] rfl k
def fX4_measureAll (a1 : Int32) (k2 : Nat) (σ : ps_S) : Option (ps_S) :=
  ((ps_lp (fun s => fX4_measureAll_S2 a1 k2 s.1 s.2) 100000 ((0 : Int32), σ)).bind fun e6 =>
  some e6)
set_option maxHeartbeats 4000000 in
set_option maxRecDepth 100000 in
theorem tX4_measureAll {z : ps_X} (C : ps_C z cX4_measureAll 4 "PartSums") (Z : ps_Z z 3 70) {a1 : Int32} {k2 : Nat} {σ : ps_S} (hk2 : ps_kd k2 = 1) {r : ps_S} (h : fX4_measureAll a1 k2 σ = some r) (k : ps_KV z 4 cX4_measureAll r) : ps_at z 4 0 [(0, .ref (z_ad z 1)), (1, .int a1), (2, .ref (z_ad z k2))] [] σ := by
  unfold fX4_measureAll at h
  refine ps_iconst C (pc := 0) (v := 0) dX4_measureAll_0 (by decide) ?_
  refine ps_istore_n C (pc := 1) (lv' := [(3, .int (0 : Int32)), (0, .ref (z_ad z 1)), (1, .int a1), (2, .ref (z_ad z k2))]) dX4_measureAll_1 (by decide) rfl ?_
  obtain ⟨e6, he6, h⟩ := ps_bd h
  refine ps_sub [1, 2, 3, 0] rfl ?_
  refine ps_loop (P := pX4_measureAll_S2 z a1 k2) (K := qX4_measureAll_S2 z a1 k2) (fun s r h k => tX4_measureAll_S2 C Z a1 k2 hk2 s r h k) _ _ _ he6 ?_
  unfold qX4_measureAll_S2
  obtain rfl := Option.some.inj h
  exact k _ _ dX4_measureAll_26
def rmX4_measureAll : Room := { frames := 3, cells := 0, slots := 0, locals := 70 }
theorem mX4_measureAll {l : Launch} {E : ps_E} {σ : ps_S} {a1 : Int32} {k2 : Nat} {r : ps_S} (hk2 : ps_kd k2 = 1) (h : fX4_measureAll a1 k2 σ = some r) : ps_MV l yX4_measureAll (ps_wm yX4_measureAll cX4_measureAll 4 none) rmX4_measureAll [.ref (e_ad E 1), .int a1, .ref (e_ad E k2)] E σ r :=
  ps_metV yX4_measureAll rmX4_measureAll 4 (own := "PartSums")  (by decide +kernel) rfl (Nat.le_of_ble_eq_true rfl) rfl (fun z e1 e2 e3 e4 e5 C k => by
    subst e5
    exact tX4_measureAll C (ps_Zof e1 e3 e4) hk2 h k)
theorem hdX4_measureAll : yX4_measureAll.cls ≠ "java/lang/invoke/MethodHandle" ∧ yX4_measureAll.cls ≠ "java/lang/invoke/VarHandle" ∧ (parseMethodDescriptor yX4_measureAll.desc).map (fun d => d.parameters.length) = some 3 := by decide +kernel
def fX4_priceWith_J33 (σ : ps_S) : Option (Int32) :=
  some (1000000 : Int32)
set_option maxHeartbeats 4000000 in
set_option maxRecDepth 100000 in
theorem tX4_priceWith_J33 {z : ps_X} (C : ps_C z cX4_priceWith 5 "PartSums") (Z : ps_Z z 0 0) {σ : ps_S}  {r : Int32} (h : fX4_priceWith_J33 σ = some r) (k : ps_KI z 5 cX4_priceWith r σ) : ps_at z 5 33 [] [] σ := by
  unfold fX4_priceWith_J33 at h
  refine ps_ldc C (pc := 33) tw_595 dX4_priceWith_33 ?_
  refine ps_goto C (pc := 35) 42 dX4_priceWith_35 (by decide) ?_
  obtain rfl := Option.some.inj h
  exact k _ _ dX4_priceWith_42
def fX4_priceWith (a1 : Int32) (a2 : Int32) (σ : ps_S) : Option (Int32) :=
  (ps_ck (4 : Int32) 5 ((ps_ck a2 256 ((ps_let (σ.1 (2 + 1 + (Int32.toNatClampNeg (4 : Int32))) (Int32.toNatClampNeg a2)) fun x3 =>
  (ps_ck (a1 ^^^ a2) 256 ((ps_let (σ.1 42 (Int32.toNatClampNeg (a1 ^^^ a2))) fun x5 =>
  (if x3 = 0 then fX4_priceWith_J33 σ
  else (if x5 < (1000000 : Int32) then some (x3 + x5)
  else fX4_priceWith_J33 σ))))))))))
set_option maxHeartbeats 4000000 in
set_option maxRecDepth 100000 in
theorem tX4_priceWith {z : ps_X} (C : ps_C z cX4_priceWith 5 "PartSums") (Z : ps_Z z 0 0) {a1 : Int32} {a2 : Int32} {σ : ps_S}  {r : Int32} (h : fX4_priceWith a1 a2 σ = some r) (k : ps_KI z 5 cX4_priceWith r σ) : ps_at z 5 0 [(0, .ref (z_ad z 0)), (1, .int a1), (2, .int a2)] [] σ := by
  unfold fX4_priceWith at h
  refine ps_aload_n C (pc := 0) dX4_priceWith_0 0 rfl ?_
  refine pg_0_0 C (pc := 1) tw_206 dX4_priceWith_1 ?_
  refine pg_1_3 C (pc := 4) tw_106 dX4_priceWith_4 ?_
  refine ps_iconst C (pc := 7) (v := 4) dX4_priceWith_7 (by decide) ?_
  obtain ⟨hi1, h⟩ := ps_ck_s h
  refine ps_aald C (pc := 8) 2 rfl rfl hi1 dX4_priceWith_8 ?_
  refine ps_iload_n C (pc := 9) dX4_priceWith_9 2 rfl ?_
  obtain ⟨hi2, h⟩ := ps_ck_s h
  refine ps_iald C (pc := 10) (2 + 1 + (Int32.toNatClampNeg (4 : Int32))) (ps_rw2 hi1).1 (ps_rw2 hi1).2 hi2 dX4_priceWith_10 ?_
  refine ps_istoreL_n C (pc := 11) (lw := fun x3 => [(3, .int x3), (0, .ref (z_ad z 0)), (1, .int a1), (2, .int a2)]) dX4_priceWith_11 (by decide) (fun _ => rfl) h (fun x3 h => ?_)
  refine ps_aload_n C (pc := 12) dX4_priceWith_12 1 rfl ?_
  refine pg_0_6 C (pc := 13) tw_212 dX4_priceWith_13 ?_
  refine ps_iload_n C (pc := 16) dX4_priceWith_16 2 rfl ?_
  refine ps_iload_n C (pc := 17) dX4_priceWith_17 3 rfl ?_
  refine ps_ixor C (pc := 18) dX4_priceWith_18 ?_
  obtain ⟨hi4, h⟩ := ps_ck_s h
  refine ps_iald C (pc := 19) 42 rfl rfl hi4 dX4_priceWith_19 ?_
  refine ps_istoreL C (pc := 20) (lw := fun x5 => [(4, .int x5), (3, .int x3), (0, .ref (z_ad z 0)), (1, .int a1), (2, .int a2)]) dX4_priceWith_20 (by decide) (fun _ => rfl) h (fun x5 h => ?_)
  refine ps_iload_n C (pc := 22) dX4_priceWith_22 1 rfl ?_
  refine ps_if_eq C (pc := 23) 33 dX4_priceWith_23 (by decide) (fun hc => ?_) (fun hc => ?_)
  · have h := ps_ift hc h
    exact ps_sub [] rfl (tX4_priceWith_J33 C Z  h k)
  · have h := ps_iff hc h
    refine ps_iload C (pc := 26) dX4_priceWith_26 0 rfl ?_
    refine ps_ldc C (pc := 28) tw_595 dX4_priceWith_28 ?_
    refine ps_icmp_lt C (pc := 30) 38 dX4_priceWith_30 (by decide) (fun hc => ?_) (fun hc => ?_)
    · have h := ps_ift hc h
      refine ps_iload_n C (pc := 38) dX4_priceWith_38 1 rfl ?_
      refine ps_iload C (pc := 39) dX4_priceWith_39 0 rfl ?_
      refine ps_iadd C (pc := 41) dX4_priceWith_41 ?_
      obtain rfl := Option.some.inj h
      exact k _ _ dX4_priceWith_42
    · have h := ps_iff hc h
      exact ps_sub [] rfl (tX4_priceWith_J33 C Z  h k)
def rmX4_priceWith : Room := { frames := 0, cells := 0, slots := 0, locals := 0 }
theorem mX4_priceWith {l : Launch} {E : ps_E} {σ : ps_S} {a1 : Int32} {a2 : Int32} {r : Int32}  (h : fX4_priceWith a1 a2 σ = some r) : ps_MI l yX4_priceWith (ps_wm yX4_priceWith cX4_priceWith 5 (some .int)) rmX4_priceWith [.ref (e_ad E 0), .int a1, .int a2] E σ r σ :=
  ps_metI yX4_priceWith rmX4_priceWith 5 (own := "PartSums") r (by decide +kernel) rfl (Nat.le_of_ble_eq_true rfl) rfl (fun z e1 e2 e3 e4 e5 C k => by
    subst e5
    exact tX4_priceWith C (ps_Zof e1 e3 e4)  h k)
theorem hdX4_priceWith : yX4_priceWith.cls ≠ "java/lang/invoke/MethodHandle" ∧ yX4_priceWith.cls ≠ "java/lang/invoke/VarHandle" ∧ (parseMethodDescriptor yX4_priceWith.desc).map (fun d => d.parameters.length) = some 2 := by decide +kernel
def pX4_leastPrice_S18 (z : ps_X) (a1 : Int32) (a2 : Int32) (σ : ps_S) (s : Int32 × Int32) : Prop := ps_at z 5 18 [(0, .ref (z_ad z 0)), (1, .int a1), (2, .int a2), (3, .int s.1), (4, .int s.2)] [] σ
def qX4_leastPrice_S18 (z : ps_X) (a1 : Int32) (a2 : Int32) (σ : ps_S) (x : (Int32)) : Prop := match x with | y => ps_at z 5 50 [(3, .int y)] [] σ
def fX4_leastPrice_S18 (a1 : Int32) (a2 : Int32) (σ : ps_S) (a3 : Int32) (a4 : Int32) : Option ((Int32 × Int32) ⊕ ((Int32))) :=
  (if a4 ≤ 0 then some (.inr a3)
  else ((fX4_priceWith a1 ((a1 ^^^ a2) ||| a4) σ).bind fun q3 =>
  (ps_let (if q3 < a3 then q3 else a3) fun x4 =>
  (ps_let ((a4 - (1 : Int32)) &&& a2) fun x5 =>
  some (.inl (x4, x5))))))
set_option maxHeartbeats 4000000 in
set_option maxRecDepth 100000 in
theorem tX4_leastPrice_S18 {z : ps_X} (C : ps_C z cX4_leastPrice 5 "PartSums") (Z : ps_Z z 1 100) (a1 : Int32) (a2 : Int32) (σ : ps_S)  (s : Int32 × Int32) (r : (Int32 × Int32) ⊕ ((Int32))) (h : fX4_leastPrice_S18 a1 a2 σ s.1 s.2 = some r) (k : ps_k (pX4_leastPrice_S18 z a1 a2 σ) (qX4_leastPrice_S18 z a1 a2 σ) r) : pX4_leastPrice_S18 z a1 a2 σ s := by
  obtain ⟨a3, a4⟩ := s
  unfold fX4_leastPrice_S18 at h
  unfold pX4_leastPrice_S18
  refine ps_iload C (pc := 18) dX4_leastPrice_18 4 rfl ?_
  refine ps_if_le C (pc := 20) 50 dX4_leastPrice_20 (by decide) (fun hc => ?_) (fun hc => ?_)
  · have h := ps_ift hc h
    obtain rfl := Option.some.inj h
    exact ps_sub [3] rfl k
  · have h := ps_iff hc h
    refine ps_iload_n C (pc := 23) dX4_leastPrice_23 3 rfl ?_
    refine ps_aload_n C (pc := 24) dX4_leastPrice_24 0 rfl ?_
    refine ps_iload_n C (pc := 25) dX4_leastPrice_25 1 rfl ?_
    refine ps_iload_n C (pc := 26) dX4_leastPrice_26 1 rfl ?_
    refine ps_iload_n C (pc := 27) dX4_leastPrice_27 2 rfl ?_
    refine ps_ixor C (pc := 28) dX4_leastPrice_28 ?_
    refine ps_iload C (pc := 29) dX4_leastPrice_29 4 rfl ?_
    refine ps_ior C (pc := 31) dX4_leastPrice_31 ?_
    obtain ⟨q3, hq3, h⟩ := ps_bd h
    refine ps_callVI C Z (pc := 32) (As := [.int a1, .int ((a1 ^^^ a2) ||| a4)]) (k0 := 0) (mX4_priceWith  hq3) (Cn := "PartSums") rfl tw_591 tw_593 tw_19 tw_65 tw_594 hdX4_priceWith rfl rfl ⟨by decide, by decide⟩ (by decide) ps_o0 rfl rfl (Nat.le_of_ble_eq_true rfl) dX4_leastPrice_32 rfl ?_
    refine ps_minZ C Z (pc := 35) tw_596 tw_267 tw_71 tw_268 (by decide) (Nat.le_of_ble_eq_true rfl) dX4_leastPrice_35 ?_
    refine ps_istoreL_n C (pc := 38) (lw := fun x4 => [(3, .int x4), (0, .ref (z_ad z 0)), (1, .int a1), (2, .int a2), (4, .int a4)]) dX4_leastPrice_38 (by decide) (fun _ => rfl) h (fun x4 h => ?_)
    refine ps_iload C (pc := 39) dX4_leastPrice_39 4 rfl ?_
    refine ps_iconst C (pc := 41) (v := 1) dX4_leastPrice_41 (by decide) ?_
    refine ps_isub C (pc := 42) dX4_leastPrice_42 ?_
    refine ps_iload_n C (pc := 43) dX4_leastPrice_43 3 rfl ?_
    refine ps_iand C (pc := 44) dX4_leastPrice_44 ?_
    refine ps_istoreL C (pc := 45) (lw := fun x5 => [(4, .int x5), (3, .int x4), (0, .ref (z_ad z 0)), (1, .int a1), (2, .int a2)]) dX4_leastPrice_45 (by decide) (fun _ => rfl) h (fun x5 h => ?_)
    refine ps_goto C (pc := 47) 18 dX4_leastPrice_47 (by decide) ?_
    obtain rfl := Option.some.inj h
    exact ps_sub [2, 3, 4, 1, 0] rfl k
def fX4_leastPrice (a1 : Int32) (σ : ps_S) : Option (Int32) :=
  (ps_let (a1 &&& (a1 - (1 : Int32))) fun x1 =>
  ((fX4_priceWith a1 (a1 ^^^ x1) σ).bind fun q2 =>
  ((ps_lp (fun s => fX4_leastPrice_S18 a1 x1 σ s.1 s.2) 100000 (q2, x1)).bind fun e6 =>
  some e6)))
set_option maxHeartbeats 4000000 in
set_option maxRecDepth 100000 in
theorem tX4_leastPrice {z : ps_X} (C : ps_C z cX4_leastPrice 5 "PartSums") (Z : ps_Z z 1 100) {a1 : Int32} {σ : ps_S}  {r : Int32} (h : fX4_leastPrice a1 σ = some r) (k : ps_KI z 5 cX4_leastPrice r σ) : ps_at z 5 0 [(0, .ref (z_ad z 0)), (1, .int a1)] [] σ := by
  unfold fX4_leastPrice at h
  refine ps_iload_n C (pc := 0) dX4_leastPrice_0 1 rfl ?_
  refine ps_iload_n C (pc := 1) dX4_leastPrice_1 1 rfl ?_
  refine ps_iconst C (pc := 2) (v := 1) dX4_leastPrice_2 (by decide) ?_
  refine ps_isub C (pc := 3) dX4_leastPrice_3 ?_
  refine ps_iand C (pc := 4) dX4_leastPrice_4 ?_
  refine ps_istoreL_n C (pc := 5) (lw := fun x1 => [(2, .int x1), (0, .ref (z_ad z 0)), (1, .int a1)]) dX4_leastPrice_5 (by decide) (fun _ => rfl) h (fun x1 h => ?_)
  refine ps_aload_n C (pc := 6) dX4_leastPrice_6 1 rfl ?_
  refine ps_iload_n C (pc := 7) dX4_leastPrice_7 2 rfl ?_
  refine ps_iload_n C (pc := 8) dX4_leastPrice_8 2 rfl ?_
  refine ps_iload_n C (pc := 9) dX4_leastPrice_9 0 rfl ?_
  refine ps_ixor C (pc := 10) dX4_leastPrice_10 ?_
  obtain ⟨q2, hq2, h⟩ := ps_bd h
  refine ps_callVI C Z (pc := 11) (As := [.int a1, .int (a1 ^^^ x1)]) (k0 := 0) (mX4_priceWith  hq2) (Cn := "PartSums") rfl tw_591 tw_593 tw_19 tw_65 tw_594 hdX4_priceWith rfl rfl ⟨by decide, by decide⟩ (by decide) ps_o0 rfl rfl (Nat.le_of_ble_eq_true rfl) dX4_leastPrice_11 rfl ?_
  refine ps_istore_n C (pc := 14) (lv' := [(3, .int q2), (2, .int x1), (0, .ref (z_ad z 0)), (1, .int a1)]) dX4_leastPrice_14 (by decide) rfl ?_
  refine ps_iload_n C (pc := 15) dX4_leastPrice_15 1 rfl ?_
  refine ps_istore C (pc := 16) (lv' := [(4, .int x1), (3, .int q2), (2, .int x1), (0, .ref (z_ad z 0)), (1, .int a1)]) dX4_leastPrice_16 (by decide) rfl ?_
  obtain ⟨e6, he6, h⟩ := ps_bd h
  refine ps_sub [3, 4, 2, 1, 0] rfl ?_
  refine ps_loop (P := pX4_leastPrice_S18 z a1 x1 σ) (K := qX4_leastPrice_S18 z a1 x1 σ) (fun s r h k => tX4_leastPrice_S18 C Z a1 x1 σ  s r h k) _ _ _ he6 ?_
  unfold qX4_leastPrice_S18
  refine ps_iload_n C (pc := 50) dX4_leastPrice_50 0 rfl ?_
  obtain rfl := Option.some.inj h
  exact k _ _ dX4_leastPrice_51
def rmX4_leastPrice : Room := { frames := 1, cells := 0, slots := 0, locals := 100 }
theorem mX4_leastPrice {l : Launch} {E : ps_E} {σ : ps_S} {a1 : Int32} {r : Int32}  (h : fX4_leastPrice a1 σ = some r) : ps_MI l yX4_leastPrice (ps_wm yX4_leastPrice cX4_leastPrice 5 (some .int)) rmX4_leastPrice [.ref (e_ad E 0), .int a1] E σ r σ :=
  ps_metI yX4_leastPrice rmX4_leastPrice 5 (own := "PartSums") r (by decide +kernel) rfl (Nat.le_of_ble_eq_true rfl) rfl (fun z e1 e2 e3 e4 e5 C k => by
    subst e5
    exact tX4_leastPrice C (ps_Zof e1 e3 e4)  h k)
theorem hdX4_leastPrice : yX4_leastPrice.cls ≠ "java/lang/invoke/MethodHandle" ∧ yX4_leastPrice.cls ≠ "java/lang/invoke/VarHandle" ∧ (parseMethodDescriptor yX4_leastPrice.desc).map (fun d => d.parameters.length) = some 1 := by decide +kernel
def pX4_priceParts_S9 (z : ps_X) (a1 : Int32) (s : Int32 × ps_S) : Prop := ps_at z 3 9 [(0, .ref (z_ad z 0)), (1, .int a1), (2, .int s.1)] [] s.2
def qX4_priceParts_S9 (z : ps_X) (a1 : Int32) (x : (ps_S)) : Prop := match x with | y => ps_at z 3 39 [] [] y
def fX4_priceParts_J33 (a1 : Int32) (a2 : Int32) (σ : ps_S) : Option ((Int32 × ps_S) ⊕ ((ps_S))) :=
  (ps_let (a2 + (1 : Int32)) fun x3 =>
  some (.inl (x3, σ)))
set_option maxHeartbeats 4000000 in
set_option maxRecDepth 100000 in
theorem tX4_priceParts_J33 {z : ps_X} (C : ps_C z cX4_priceParts 3 "PartSums") (Z : ps_Z z 2 124) {a1 : Int32} {a2 : Int32} {σ : ps_S}  {r : (Int32 × ps_S) ⊕ ((ps_S))} (h : fX4_priceParts_J33 a1 a2 σ = some r) (k : ps_k (pX4_priceParts_S9 z a1) (qX4_priceParts_S9 z a1) r) : ps_at z 3 33 [(0, .ref (z_ad z 0)), (1, .int a1), (2, .int a2)] [] σ := by
  unfold fX4_priceParts_J33 at h
  refine ps_iincL C (pc := 33) (zz := 1) (lw := fun x3 => [(2, .int x3), (0, .ref (z_ad z 0)), (1, .int a1)]) dX4_priceParts_33 2 rfl (by decide) (by decide) (fun _ => rfl) h (fun x3 h => ?_)
  refine ps_goto C (pc := 36) 9 dX4_priceParts_36 (by decide) ?_
  obtain rfl := Option.some.inj h
  exact ps_sub [1, 2, 0] rfl k
def fX4_priceParts_S9 (a1 : Int32) (a2 : Int32) (σ : ps_S) : Option ((Int32 × ps_S) ⊕ ((ps_S))) :=
  (if a1 < a2 then some (.inr σ)
  else (if (a2 &&& (a1 ^^^ (-1 : Int32))) = 0 then ((fX4_leastPrice a2 σ).bind fun q4 =>
  (ps_ck a2 256 ((ps_let (ps_ui σ 42 (Int32.toNatClampNeg a2) q4) fun σ6 =>
  fX4_priceParts_J33 a1 a2 σ6))))
  else fX4_priceParts_J33 a1 a2 σ))
set_option maxHeartbeats 4000000 in
set_option maxRecDepth 100000 in
theorem tX4_priceParts_S9 {z : ps_X} (C : ps_C z cX4_priceParts 3 "PartSums") (Z : ps_Z z 2 124) (a1 : Int32)  (s : Int32 × ps_S) (r : (Int32 × ps_S) ⊕ ((ps_S))) (h : fX4_priceParts_S9 a1 s.1 s.2 = some r) (k : ps_k (pX4_priceParts_S9 z a1) (qX4_priceParts_S9 z a1) r) : pX4_priceParts_S9 z a1 s := by
  obtain ⟨a2, σ⟩ := s
  unfold fX4_priceParts_S9 at h
  unfold pX4_priceParts_S9
  refine ps_iload_n C (pc := 9) dX4_priceParts_9 2 rfl ?_
  refine ps_iload_n C (pc := 10) dX4_priceParts_10 1 rfl ?_
  refine ps_icmp_gt C (pc := 11) 39 dX4_priceParts_11 (by decide) (fun hc => ?_) (fun hc => ?_)
  · have h := ps_ift hc h
    obtain rfl := Option.some.inj h
    exact ps_sub [] rfl k
  · have h := ps_iff hc h
    refine ps_iload_n C (pc := 14) dX4_priceParts_14 2 rfl ?_
    refine ps_iload_n C (pc := 15) dX4_priceParts_15 1 rfl ?_
    refine ps_iconst C (pc := 16) (v := -1) dX4_priceParts_16 (by decide) ?_
    refine ps_ixor C (pc := 17) dX4_priceParts_17 ?_
    refine ps_iand C (pc := 18) dX4_priceParts_18 ?_
    refine ps_if_ne C (pc := 19) 33 dX4_priceParts_19 (by decide) (fun hc => ?_) (fun hc => ?_)
    · have h := ps_iff hc h
      exact ps_sub [0, 1, 2] rfl (tX4_priceParts_J33 C Z  h k)
    · have h := ps_ift hc h
      refine ps_aload_n C (pc := 22) dX4_priceParts_22 0 rfl ?_
      refine pg_0_6 C (pc := 23) tw_212 dX4_priceParts_23 ?_
      refine ps_iload_n C (pc := 26) dX4_priceParts_26 2 rfl ?_
      refine ps_aload_n C (pc := 27) dX4_priceParts_27 0 rfl ?_
      refine ps_iload_n C (pc := 28) dX4_priceParts_28 2 rfl ?_
      obtain ⟨q4, hq4, h⟩ := ps_bd h
      refine ps_callVI C Z (pc := 29) (As := [.int a2]) (k0 := 0) (mX4_leastPrice  hq4) (Cn := "PartSums") rfl tw_587 tw_589 tw_18 tw_65 tw_590 hdX4_leastPrice rfl rfl ⟨by decide, by decide⟩ (by decide) ps_o0 rfl rfl (Nat.le_of_ble_eq_true rfl) dX4_priceParts_29 rfl ?_
      obtain ⟨hi5, h⟩ := ps_ck_s h
      refine ps_iastL C (pc := 32) 42 rfl rfl hi5 dX4_priceParts_32 h (fun σ6 h => ?_)
      exact ps_sub [0, 1, 2] rfl (tX4_priceParts_J33 C Z  h k)
def fX4_priceParts (a1 : Int32) (σ : ps_S) : Option (ps_S) :=
  (ps_ck (0 : Int32) 256 ((ps_let (ps_ui σ 42 (Int32.toNatClampNeg (0 : Int32)) (0 : Int32)) fun σ2 =>
  ((ps_lp (fun s => fX4_priceParts_S9 a1 s.1 s.2) 100000 ((1 : Int32), σ2)).bind fun e7 =>
  some e7))))
set_option maxHeartbeats 4000000 in
set_option maxRecDepth 100000 in
theorem tX4_priceParts {z : ps_X} (C : ps_C z cX4_priceParts 3 "PartSums") (Z : ps_Z z 2 124) {a1 : Int32} {σ : ps_S}  {r : ps_S} (h : fX4_priceParts a1 σ = some r) (k : ps_KV z 3 cX4_priceParts r) : ps_at z 3 0 [(0, .ref (z_ad z 0)), (1, .int a1)] [] σ := by
  unfold fX4_priceParts at h
  refine ps_aload_n C (pc := 0) dX4_priceParts_0 0 rfl ?_
  refine pg_0_6 C (pc := 1) tw_212 dX4_priceParts_1 ?_
  refine ps_iconst C (pc := 4) (v := 0) dX4_priceParts_4 (by decide) ?_
  refine ps_iconst C (pc := 5) (v := 0) dX4_priceParts_5 (by decide) ?_
  obtain ⟨hi1, h⟩ := ps_ck_s h
  refine ps_iastL C (pc := 6) 42 rfl rfl hi1 dX4_priceParts_6 h (fun σ2 h => ?_)
  refine ps_iconst C (pc := 7) (v := 1) dX4_priceParts_7 (by decide) ?_
  refine ps_istore_n C (pc := 8) (lv' := [(2, .int (1 : Int32)), (0, .ref (z_ad z 0)), (1, .int a1)]) dX4_priceParts_8 (by decide) rfl ?_
  obtain ⟨e7, he7, h⟩ := ps_bd h
  refine ps_sub [1, 2, 0] rfl ?_
  refine ps_loop (P := pX4_priceParts_S9 z a1) (K := qX4_priceParts_S9 z a1) (fun s r h k => tX4_priceParts_S9 C Z a1  s r h k) _ _ _ he7 ?_
  unfold qX4_priceParts_S9
  obtain rfl := Option.some.inj h
  exact k _ _ dX4_priceParts_39
def rmX4_priceParts : Room := { frames := 2, cells := 0, slots := 0, locals := 124 }
theorem mX4_priceParts {l : Launch} {E : ps_E} {σ : ps_S} {a1 : Int32} {r : ps_S}  (h : fX4_priceParts a1 σ = some r) : ps_MV l yX4_priceParts (ps_wm yX4_priceParts cX4_priceParts 3 none) rmX4_priceParts [.ref (e_ad E 0), .int a1] E σ r :=
  ps_metV yX4_priceParts rmX4_priceParts 3 (own := "PartSums")  (by decide +kernel) rfl (Nat.le_of_ble_eq_true rfl) rfl (fun z e1 e2 e3 e4 e5 C k => by
    subst e5
    exact tX4_priceParts C (ps_Zof e1 e3 e4)  h k)
theorem hdX4_priceParts : yX4_priceParts.cls ≠ "java/lang/invoke/MethodHandle" ∧ yX4_priceParts.cls ≠ "java/lang/invoke/VarHandle" ∧ (parseMethodDescriptor yX4_priceParts.desc).map (fun d => d.parameters.length) = some 1 := by decide +kernel
def pX4_firstPart_S7 (z : ps_X) (a1 : Int32) (a2 : Int32) (σ : ps_S) (s : Int32) : Prop := ps_at z 5 7 [(0, .ref (z_ad z 0)), (1, .int a1), (2, .int a2), (3, .int s)] [] σ
def qX4_firstPart_S7 (z : ps_X) (a1 : Int32) (a2 : Int32) (σ : ps_S) (x : (Int32) ⊕ (Unit)) : Prop := match x with | .inl y => ps_at z 5 53 [(3, .int y)] [] σ | .inr y => ps_at z 5 61 [] [] σ
def fX4_firstPart_J55 (a1 : Int32) (a2 : Int32) (a3 : Int32) (σ : ps_S) : Option ((Int32) ⊕ ((Int32) ⊕ (Unit))) :=
  (ps_let (a3 + (1 : Int32)) fun x2 =>
  some (.inl x2))
set_option maxHeartbeats 4000000 in
set_option maxRecDepth 100000 in
theorem tX4_firstPart_J55 {z : ps_X} (C : ps_C z cX4_firstPart 5 "PartSums") (Z : ps_Z z 1 24) {a1 : Int32} {a2 : Int32} {a3 : Int32} {σ : ps_S}  {r : (Int32) ⊕ ((Int32) ⊕ (Unit))} (h : fX4_firstPart_J55 a1 a2 a3 σ = some r) (k : ps_k (pX4_firstPart_S7 z a1 a2 σ) (qX4_firstPart_S7 z a1 a2 σ) r) : ps_at z 5 55 [(0, .ref (z_ad z 0)), (1, .int a1), (2, .int a2), (3, .int a3)] [] σ := by
  unfold fX4_firstPart_J55 at h
  refine ps_iincL C (pc := 55) (zz := 1) (lw := fun x2 => [(3, .int x2), (0, .ref (z_ad z 0)), (1, .int a1), (2, .int a2)]) dX4_firstPart_55 3 rfl (by decide) (by decide) (fun _ => rfl) h (fun x2 h => ?_)
  refine ps_goto C (pc := 58) 7 dX4_firstPart_58 (by decide) ?_
  obtain rfl := Option.some.inj h
  exact ps_sub [1, 2, 3, 0] rfl k
def fX4_firstPart_J31 (a1 : Int32) (a2 : Int32) (a3 : Int32) (u0 : Int32) (σ : ps_S) : Option ((Int32) ⊕ ((Int32) ⊕ (Unit))) :=
  (if u0 = 0 then fX4_firstPart_J55 a1 a2 a3 σ
  else ((fX4_priceWith a1 a3 σ).bind fun q3 =>
  (ps_ck a1 256 ((if q3 = (σ.1 42 (Int32.toNatClampNeg a1)) then some (.inr (.inl a3))
  else fX4_firstPart_J55 a1 a2 a3 σ)))))
set_option maxHeartbeats 4000000 in
set_option maxRecDepth 100000 in
theorem tX4_firstPart_J31 {z : ps_X} (C : ps_C z cX4_firstPart 5 "PartSums") (Z : ps_Z z 1 24) {a1 : Int32} {a2 : Int32} {a3 : Int32} {u0 : Int32} {σ : ps_S}  {r : (Int32) ⊕ ((Int32) ⊕ (Unit))} (h : fX4_firstPart_J31 a1 a2 a3 u0 σ = some r) (k : ps_k (pX4_firstPart_S7 z a1 a2 σ) (qX4_firstPart_S7 z a1 a2 σ) r) : ps_at z 5 31 [(0, .ref (z_ad z 0)), (1, .int a1), (2, .int a2), (3, .int a3)] [.int u0] σ := by
  unfold fX4_firstPart_J31 at h
  refine ps_istore C (pc := 31) (lv' := [(4, .int u0), (0, .ref (z_ad z 0)), (1, .int a1), (2, .int a2), (3, .int a3)]) dX4_firstPart_31 (by decide) rfl ?_
  refine ps_iload C (pc := 33) dX4_firstPart_33 0 rfl ?_
  refine ps_if_eq C (pc := 35) 55 dX4_firstPart_35 (by decide) (fun hc => ?_) (fun hc => ?_)
  · have h := ps_ift hc h
    exact ps_sub [1, 2, 3, 4] rfl (tX4_firstPart_J55 C Z  h k)
  · have h := ps_iff hc h
    refine ps_aload_n C (pc := 38) dX4_firstPart_38 1 rfl ?_
    refine ps_iload_n C (pc := 39) dX4_firstPart_39 2 rfl ?_
    refine ps_iload_n C (pc := 40) dX4_firstPart_40 4 rfl ?_
    obtain ⟨q3, hq3, h⟩ := ps_bd h
    refine ps_callVI C Z (pc := 41) (As := [.int a1, .int a3]) (k0 := 0) (mX4_priceWith  hq3) (Cn := "PartSums") rfl tw_591 tw_593 tw_19 tw_65 tw_594 hdX4_priceWith rfl rfl ⟨by decide, by decide⟩ (by decide) ps_o0 rfl rfl (Nat.le_of_ble_eq_true rfl) dX4_firstPart_41 rfl ?_
    refine ps_aload_n C (pc := 44) dX4_firstPart_44 1 rfl ?_
    refine pg_0_6 C (pc := 45) tw_212 dX4_firstPart_45 ?_
    refine ps_iload_n C (pc := 48) dX4_firstPart_48 2 rfl ?_
    obtain ⟨hi4, h⟩ := ps_ck_s h
    refine ps_iald C (pc := 49) 42 rfl rfl hi4 dX4_firstPart_49 ?_
    refine ps_icmp_ne C (pc := 50) 55 dX4_firstPart_50 (by decide) (fun hc => ?_) (fun hc => ?_)
    · have h := ps_iff hc h
      exact ps_sub [1, 2, 3, 4] rfl (tX4_firstPart_J55 C Z  h k)
    · have h := ps_ift hc h
      obtain rfl := Option.some.inj h
      exact ps_sub [4] rfl k
def fX4_firstPart_J30 (a1 : Int32) (a2 : Int32) (a3 : Int32) (σ : ps_S) : Option ((Int32) ⊕ ((Int32) ⊕ (Unit))) :=
  fX4_firstPart_J31 a1 a2 a3 (0 : Int32) σ
set_option maxHeartbeats 4000000 in
set_option maxRecDepth 100000 in
theorem tX4_firstPart_J30 {z : ps_X} (C : ps_C z cX4_firstPart 5 "PartSums") (Z : ps_Z z 1 24) {a1 : Int32} {a2 : Int32} {a3 : Int32} {σ : ps_S}  {r : (Int32) ⊕ ((Int32) ⊕ (Unit))} (h : fX4_firstPart_J30 a1 a2 a3 σ = some r) (k : ps_k (pX4_firstPart_S7 z a1 a2 σ) (qX4_firstPart_S7 z a1 a2 σ) r) : ps_at z 5 30 [(0, .ref (z_ad z 0)), (1, .int a1), (2, .int a2), (3, .int a3)] [] σ := by
  unfold fX4_firstPart_J30 at h
  refine ps_iconst C (pc := 30) (v := 0) dX4_firstPart_30 (by decide) ?_
  exact ps_sub [0, 1, 2, 3] rfl (tX4_firstPart_J31 C Z  h k)
def fX4_firstPart_S7 (a1 : Int32) (a2 : Int32) (σ : ps_S) (a3 : Int32) : Option ((Int32) ⊕ ((Int32) ⊕ (Unit))) :=
  (if a1 < a3 then some (.inr (.inr ()))
  else (if (a3 &&& (a1 ^^^ (-1 : Int32))) = 0 then (if (a3 &&& a2) = 0 then fX4_firstPart_J30 a1 a2 a3 σ
  else fX4_firstPart_J31 a1 a2 a3 (1 : Int32) σ)
  else fX4_firstPart_J30 a1 a2 a3 σ))
set_option maxHeartbeats 4000000 in
set_option maxRecDepth 100000 in
theorem tX4_firstPart_S7 {z : ps_X} (C : ps_C z cX4_firstPart 5 "PartSums") (Z : ps_Z z 1 24) (a1 : Int32) (a2 : Int32) (σ : ps_S)  (s : Int32) (r : (Int32) ⊕ ((Int32) ⊕ (Unit))) (h : fX4_firstPart_S7 a1 a2 σ s = some r) (k : ps_k (pX4_firstPart_S7 z a1 a2 σ) (qX4_firstPart_S7 z a1 a2 σ) r) : pX4_firstPart_S7 z a1 a2 σ s := by
  generalize s = a3 at h ⊢
  unfold fX4_firstPart_S7 at h
  unfold pX4_firstPart_S7
  refine ps_iload_n C (pc := 7) dX4_firstPart_7 3 rfl ?_
  refine ps_iload_n C (pc := 8) dX4_firstPart_8 1 rfl ?_
  refine ps_icmp_gt C (pc := 9) 61 dX4_firstPart_9 (by decide) (fun hc => ?_) (fun hc => ?_)
  · have h := ps_ift hc h
    obtain rfl := Option.some.inj h
    exact ps_sub [] rfl k
  · have h := ps_iff hc h
    refine ps_iload_n C (pc := 12) dX4_firstPart_12 3 rfl ?_
    refine ps_iload_n C (pc := 13) dX4_firstPart_13 1 rfl ?_
    refine ps_iconst C (pc := 14) (v := -1) dX4_firstPart_14 (by decide) ?_
    refine ps_ixor C (pc := 15) dX4_firstPart_15 ?_
    refine ps_iand C (pc := 16) dX4_firstPart_16 ?_
    refine ps_if_ne C (pc := 17) 30 dX4_firstPart_17 (by decide) (fun hc => ?_) (fun hc => ?_)
    · have h := ps_iff hc h
      exact ps_sub [0, 1, 2, 3] rfl (tX4_firstPart_J30 C Z  h k)
    · have h := ps_ift hc h
      refine ps_iload_n C (pc := 20) dX4_firstPart_20 3 rfl ?_
      refine ps_iload_n C (pc := 21) dX4_firstPart_21 2 rfl ?_
      refine ps_iand C (pc := 22) dX4_firstPart_22 ?_
      refine ps_if_eq C (pc := 23) 30 dX4_firstPart_23 (by decide) (fun hc => ?_) (fun hc => ?_)
      · have h := ps_ift hc h
        exact ps_sub [0, 1, 2, 3] rfl (tX4_firstPart_J30 C Z  h k)
      · have h := ps_iff hc h
        refine ps_iconst C (pc := 26) (v := 1) dX4_firstPart_26 (by decide) ?_
        refine ps_goto C (pc := 27) 31 dX4_firstPart_27 (by decide) ?_
        exact ps_sub [0, 1, 2, 3] rfl (tX4_firstPart_J31 C Z  h k)
def fX4_firstPart (a1 : Int32) (σ : ps_S) : Option (Int32) :=
  (ps_let (a1 &&& (-a1)) fun x1 =>
  ((ps_lp (fun s => fX4_firstPart_S7 a1 x1 σ s) 100000 (1 : Int32)).bind fun e5 =>
  match e5 with | .inl y6 => some y6 | .inr y7 => some (0 : Int32)))
set_option maxHeartbeats 4000000 in
set_option maxRecDepth 100000 in
theorem tX4_firstPart {z : ps_X} (C : ps_C z cX4_firstPart 5 "PartSums") (Z : ps_Z z 1 24) {a1 : Int32} {σ : ps_S}  {r : Int32} (h : fX4_firstPart a1 σ = some r) (k : ps_KI z 5 cX4_firstPart r σ) : ps_at z 5 0 [(0, .ref (z_ad z 0)), (1, .int a1)] [] σ := by
  unfold fX4_firstPart at h
  refine ps_iload_n C (pc := 0) dX4_firstPart_0 1 rfl ?_
  refine ps_iload_n C (pc := 1) dX4_firstPart_1 1 rfl ?_
  refine ps_ineg C (pc := 2) dX4_firstPart_2 ?_
  refine ps_iand C (pc := 3) dX4_firstPart_3 ?_
  refine ps_istoreL_n C (pc := 4) (lw := fun x1 => [(2, .int x1), (0, .ref (z_ad z 0)), (1, .int a1)]) dX4_firstPart_4 (by decide) (fun _ => rfl) h (fun x1 h => ?_)
  refine ps_iconst C (pc := 5) (v := 1) dX4_firstPart_5 (by decide) ?_
  refine ps_istore_n C (pc := 6) (lv' := [(3, .int (1 : Int32)), (2, .int x1), (0, .ref (z_ad z 0)), (1, .int a1)]) dX4_firstPart_6 (by decide) rfl ?_
  obtain ⟨e5, he5, h⟩ := ps_bd h
  refine ps_sub [2, 3, 1, 0] rfl ?_
  refine ps_loop (P := pX4_firstPart_S7 z a1 x1 σ) (K := qX4_firstPart_S7 z a1 x1 σ) (fun s r h k => tX4_firstPart_S7 C Z a1 x1 σ  s r h k) _ _ _ he5 ?_
  unfold qX4_firstPart_S7
  rcases e5 with y6 | w_y6
  · refine ps_iload_n C (pc := 53) dX4_firstPart_53 0 rfl ?_
    obtain rfl := Option.some.inj h
    exact k _ _ dX4_firstPart_54
  · generalize w_y6 = y7 at h ⊢
    refine ps_iconst C (pc := 61) (v := 0) dX4_firstPart_61 (by decide) ?_
    obtain rfl := Option.some.inj h
    exact k _ _ dX4_firstPart_62
def rmX4_firstPart : Room := { frames := 1, cells := 0, slots := 0, locals := 24 }
theorem mX4_firstPart {l : Launch} {E : ps_E} {σ : ps_S} {a1 : Int32} {r : Int32}  (h : fX4_firstPart a1 σ = some r) : ps_MI l yX4_firstPart (ps_wm yX4_firstPart cX4_firstPart 5 (some .int)) rmX4_firstPart [.ref (e_ad E 0), .int a1] E σ r σ :=
  ps_metI yX4_firstPart rmX4_firstPart 5 (own := "PartSums") r (by decide +kernel) rfl (Nat.le_of_ble_eq_true rfl) rfl (fun z e1 e2 e3 e4 e5 C k => by
    subst e5
    exact tX4_firstPart C (ps_Zof e1 e3 e4)  h k)
theorem hdX4_firstPart : yX4_firstPart.cls ≠ "java/lang/invoke/MethodHandle" ∧ yX4_firstPart.cls ≠ "java/lang/invoke/VarHandle" ∧ (parseMethodDescriptor yX4_firstPart.desc).map (fun d => d.parameters.length) = some 1 := by decide +kernel
def pX4_partOrNone_S46 (z : ps_X) (a2 : Int32) (σ : ps_S) (s : Int32 × Int32) : Prop := ps_at z 5 46 [(0, .ref (z_ad z 0)), (2, .int a2), (3, .int s.1), (4, .int s.2)] [] σ
def qX4_partOrNone_S46 (z : ps_X) (a2 : Int32) (σ : ps_S) (x : (Int32)) : Prop := match x with | y => ps_at z 5 66 [(0, .ref (z_ad z 0)), (3, .int y)] [] σ
def fX4_partOrNone_S46 (a2 : Int32) (σ : ps_S) (a3 : Int32) (a4 : Int32) : Option ((Int32 × Int32) ⊕ ((Int32))) :=
  (if a2 ≤ a4 then some (.inr a3)
  else ((fX4_firstPart a3 σ).bind fun q4 =>
  (ps_let (a3 ^^^ q4) fun x5 =>
  (ps_let (a4 + (1 : Int32)) fun x6 =>
  some (.inl (x5, x6))))))
set_option maxHeartbeats 4000000 in
set_option maxRecDepth 100000 in
theorem tX4_partOrNone_S46 {z : ps_X} (C : ps_C z cX4_partOrNone 5 "PartSums") (Z : ps_Z z 3 146) (a2 : Int32) (σ : ps_S)  (s : Int32 × Int32) (r : (Int32 × Int32) ⊕ ((Int32))) (h : fX4_partOrNone_S46 a2 σ s.1 s.2 = some r) (k : ps_k (pX4_partOrNone_S46 z a2 σ) (qX4_partOrNone_S46 z a2 σ) r) : pX4_partOrNone_S46 z a2 σ s := by
  obtain ⟨a3, a4⟩ := s
  unfold fX4_partOrNone_S46 at h
  unfold pX4_partOrNone_S46
  refine ps_iload C (pc := 46) dX4_partOrNone_46 3 rfl ?_
  refine ps_iload_n C (pc := 48) dX4_partOrNone_48 1 rfl ?_
  refine ps_icmp_ge C (pc := 49) 66 dX4_partOrNone_49 (by decide) (fun hc => ?_) (fun hc => ?_)
  · have h := ps_ift hc h
    obtain rfl := Option.some.inj h
    exact ps_sub [0, 2] rfl k
  · have h := ps_iff hc h
    refine ps_iload_n C (pc := 52) dX4_partOrNone_52 2 rfl ?_
    refine ps_aload_n C (pc := 53) dX4_partOrNone_53 0 rfl ?_
    refine ps_iload_n C (pc := 54) dX4_partOrNone_54 2 rfl ?_
    obtain ⟨q4, hq4, h⟩ := ps_bd h
    refine ps_callVI C Z (pc := 55) (As := [.int a3]) (k0 := 0) (mX4_firstPart  hq4) (Cn := "PartSums") rfl tw_705 tw_707 tw_23 tw_65 tw_708 hdX4_firstPart rfl rfl ⟨by decide, by decide⟩ (by decide) ps_o0 rfl rfl (Nat.le_of_ble_eq_true rfl) dX4_partOrNone_55 rfl ?_
    refine ps_ixor C (pc := 58) dX4_partOrNone_58 ?_
    refine ps_istoreL_n C (pc := 59) (lw := fun x5 => [(3, .int x5), (0, .ref (z_ad z 0)), (2, .int a2), (4, .int a4)]) dX4_partOrNone_59 (by decide) (fun _ => rfl) h (fun x5 h => ?_)
    refine ps_iincL C (pc := 60) (zz := 1) (lw := fun x6 => [(4, .int x6), (3, .int x5), (0, .ref (z_ad z 0)), (2, .int a2)]) dX4_partOrNone_60 3 rfl (by decide) (by decide) (fun _ => rfl) h (fun x6 h => ?_)
    refine ps_goto C (pc := 63) 46 dX4_partOrNone_63 (by decide) ?_
    obtain rfl := Option.some.inj h
    exact ps_sub [2, 3, 1, 0] rfl k
def fX4_partOrNone (a1 : Int32) (a2 : Int32) (σ : ps_S) : Option (Int32 × ps_S) :=
  ((fX1_hasSet a1 σ).bind fun q1 =>
  (if q1 = 0 then some ((-1 : Int32), σ)
  else (if a2 < 0 then some ((-1 : Int32), σ)
  else (if a2 < (8 : Int32) then ((fX4_priceParts a1 σ).bind fun q2 =>
  (ps_ck a1 256 ((if (q2.1 42 (Int32.toNatClampNeg a1)) < (1000000 : Int32) then ((ps_lp (fun s => fX4_partOrNone_S46 a2 q2 s.1 s.2) 100000 (a1, (0 : Int32))).bind fun e7 =>
  (if e7 = 0 then some ((-1 : Int32), q2)
  else ((fX4_firstPart e7 q2).bind fun q8 =>
  some (q8, q2))))
  else some ((-1 : Int32), q2)))))
  else some ((-1 : Int32), σ)))))
set_option maxHeartbeats 4000000 in
set_option maxRecDepth 100000 in
theorem tX4_partOrNone {z : ps_X} (C : ps_C z cX4_partOrNone 5 "PartSums") (Z : ps_Z z 3 146) {a1 : Int32} {a2 : Int32} {σ : ps_S}  {r : Int32 × ps_S} (h : fX4_partOrNone a1 a2 σ = some r) (k : ps_KI z 5 cX4_partOrNone r.1 r.2) : ps_at z 5 0 [(0, .ref (z_ad z 0)), (1, .int a1), (2, .int a2)] [] σ := by
  unfold fX4_partOrNone at h
  refine ps_aload_n C (pc := 0) dX4_partOrNone_0 0 rfl ?_
  refine pg_0_0 C (pc := 1) tw_206 dX4_partOrNone_1 ?_
  refine ps_iload_n C (pc := 4) dX4_partOrNone_4 1 rfl ?_
  obtain ⟨q1, hq1, h⟩ := ps_bd h
  refine ps_callVI C Z (pc := 5) (As := [.int a1]) (k0 := 1) (mX1_hasSet  hq1) (Cn := "PartSums$Ground") rfl tw_404 tw_405 tw_406 tw_66 tw_407 hdX1_hasSet rfl rfl ⟨by decide, by decide⟩ (by decide) ps_o1 rfl rfl (Nat.le_of_ble_eq_true rfl) dX4_partOrNone_5 rfl ?_
  refine ps_if_eq C (pc := 8) 21 dX4_partOrNone_8 (by decide) (fun hc => ?_) (fun hc => ?_)
  · have h := ps_ift hc h
    refine ps_iconst C (pc := 21) (v := -1) dX4_partOrNone_21 (by decide) ?_
    obtain rfl := Option.some.inj h
    exact k _ _ dX4_partOrNone_22
  · have h := ps_iff hc h
    refine ps_iload_n C (pc := 11) dX4_partOrNone_11 2 rfl ?_
    refine ps_if_lt C (pc := 12) 21 dX4_partOrNone_12 (by decide) (fun hc => ?_) (fun hc => ?_)
    · have h := ps_ift hc h
      refine ps_iconst C (pc := 21) (v := -1) dX4_partOrNone_21 (by decide) ?_
      obtain rfl := Option.some.inj h
      exact k _ _ dX4_partOrNone_22
    · have h := ps_iff hc h
      refine ps_iload_n C (pc := 15) dX4_partOrNone_15 2 rfl ?_
      refine ps_bipush C (pc := 16) (v := 8) dX4_partOrNone_16 (by decide) ?_
      refine ps_icmp_lt C (pc := 18) 23 dX4_partOrNone_18 (by decide) (fun hc => ?_) (fun hc => ?_)
      · have h := ps_ift hc h
        refine ps_aload_n C (pc := 23) dX4_partOrNone_23 0 rfl ?_
        refine ps_iload_n C (pc := 24) dX4_partOrNone_24 1 rfl ?_
        obtain ⟨q2, hq2, h⟩ := ps_bd h
        refine ps_callVV C Z (pc := 25) (As := [.int a1]) (k0 := 0) (mX4_priceParts  hq2) (Cn := "PartSums") rfl tw_583 tw_585 tw_17 tw_65 tw_586 hdX4_priceParts rfl rfl ⟨by decide, by decide⟩ (by decide) ps_o0 rfl rfl (Nat.le_of_ble_eq_true rfl) dX4_partOrNone_25 rfl ?_
        refine ps_aload_n C (pc := 28) dX4_partOrNone_28 0 rfl ?_
        refine pg_0_6 C (pc := 29) tw_212 dX4_partOrNone_29 ?_
        refine ps_iload_n C (pc := 32) dX4_partOrNone_32 1 rfl ?_
        obtain ⟨hi3, h⟩ := ps_ck_s h
        refine ps_iald C (pc := 33) 42 rfl rfl hi3 dX4_partOrNone_33 ?_
        refine ps_ldc C (pc := 34) tw_595 dX4_partOrNone_34 ?_
        refine ps_icmp_lt C (pc := 36) 41 dX4_partOrNone_36 (by decide) (fun hc => ?_) (fun hc => ?_)
        · have h := ps_ift hc h
          refine ps_iload_n C (pc := 41) dX4_partOrNone_41 1 rfl ?_
          refine ps_istore_n C (pc := 42) (lv' := [(3, .int a1), (0, .ref (z_ad z 0)), (1, .int a1), (2, .int a2)]) dX4_partOrNone_42 (by decide) rfl ?_
          refine ps_iconst C (pc := 43) (v := 0) dX4_partOrNone_43 (by decide) ?_
          refine ps_istore C (pc := 44) (lv' := [(4, .int (0 : Int32)), (3, .int a1), (0, .ref (z_ad z 0)), (1, .int a1), (2, .int a2)]) dX4_partOrNone_44 (by decide) rfl ?_
          obtain ⟨e7, he7, h⟩ := ps_bd h
          refine ps_sub [2, 4, 1, 0] rfl ?_
          refine ps_loop (P := pX4_partOrNone_S46 z a2 q2) (K := qX4_partOrNone_S46 z a2 q2) (fun s r h k => tX4_partOrNone_S46 C Z a2 q2  s r h k) _ _ _ he7 ?_
          unfold qX4_partOrNone_S46
          refine ps_iload_n C (pc := 66) dX4_partOrNone_66 1 rfl ?_
          refine ps_if_ne C (pc := 67) 74 dX4_partOrNone_67 (by decide) (fun hc => ?_) (fun hc => ?_)
          · have h := ps_iff hc h
            refine ps_aload_n C (pc := 74) dX4_partOrNone_74 0 rfl ?_
            refine ps_iload_n C (pc := 75) dX4_partOrNone_75 1 rfl ?_
            obtain ⟨q8, hq8, h⟩ := ps_bd h
            refine ps_callVI C Z (pc := 76) (As := [.int e7]) (k0 := 0) (mX4_firstPart  hq8) (Cn := "PartSums") rfl tw_705 tw_707 tw_23 tw_65 tw_708 hdX4_firstPart rfl rfl ⟨by decide, by decide⟩ (by decide) ps_o0 rfl rfl (Nat.le_of_ble_eq_true rfl) dX4_partOrNone_76 rfl ?_
            obtain rfl := Option.some.inj h
            exact k _ _ dX4_partOrNone_79
          · have h := ps_ift hc h
            refine ps_iconst C (pc := 70) (v := -1) dX4_partOrNone_70 (by decide) ?_
            refine ps_goto C (pc := 71) 79 dX4_partOrNone_71 (by decide) ?_
            obtain rfl := Option.some.inj h
            exact k _ _ dX4_partOrNone_79
        · have h := ps_iff hc h
          refine ps_iconst C (pc := 39) (v := -1) dX4_partOrNone_39 (by decide) ?_
          obtain rfl := Option.some.inj h
          exact k _ _ dX4_partOrNone_40
      · have h := ps_iff hc h
        refine ps_iconst C (pc := 21) (v := -1) dX4_partOrNone_21 (by decide) ?_
        obtain rfl := Option.some.inj h
        exact k _ _ dX4_partOrNone_22
def rmX4_partOrNone : Room := { frames := 3, cells := 0, slots := 0, locals := 146 }
theorem mX4_partOrNone {l : Launch} {E : ps_E} {σ : ps_S} {a1 : Int32} {a2 : Int32} {r : Int32 × ps_S}  (h : fX4_partOrNone a1 a2 σ = some r) : ps_MI l yX4_partOrNone (ps_wm yX4_partOrNone cX4_partOrNone 5 (some .int)) rmX4_partOrNone [.ref (e_ad E 0), .int a1, .int a2] E σ r.1 r.2 :=
  ps_metI yX4_partOrNone rmX4_partOrNone 5 (own := "PartSums") r.1 (by decide +kernel) rfl (Nat.le_of_ble_eq_true rfl) rfl (fun z e1 e2 e3 e4 e5 C k => by
    subst e5
    exact tX4_partOrNone C (ps_Zof e1 e3 e4)  h k)
theorem hdX4_partOrNone : yX4_partOrNone.cls ≠ "java/lang/invoke/MethodHandle" ∧ yX4_partOrNone.cls ≠ "java/lang/invoke/VarHandle" ∧ (parseMethodDescriptor yX4_partOrNone.desc).map (fun d => d.parameters.length) = some 2 := by decide +kernel
def pX4_paintFrom_S39 (z : ps_X) (k1 : Nat) (a2 : Int32) (a3 : Int32) (a4 : Int32) (a5 : Int32) (s : Int32 × ps_S) : Prop := ps_at z 8 39 [(0, .ref (z_ad z 1)), (1, .ref (z_ad z k1)), (2, .int a2), (3, .int a3), (4, .int a4), (5, .int a5), (6, .int s.1)] [] s.2
def qX4_paintFrom_S39 (z : ps_X) (k1 : Nat) (a2 : Int32) (a3 : Int32) (a4 : Int32) (a5 : Int32) (x : (ps_S) ⊕ (ps_S) ⊕ (ps_S)) : Prop := match x with | .inl y => ps_at z 8 96 [] [] y | .inr (.inl y) => ps_at z 8 112 [] [] y | .inr (.inr y) => ps_at z 8 120 [] [] y
def fX4_paintFrom_J107 (rec : Nat → Int32 → Int32 → Int32 → ps_S → Option (Int32 × ps_S)) (k1 : Nat) (a2 : Int32) (a3 : Int32) (a4 : Int32) (a5 : Int32) (a6 : Int32) (a7 : Int32) (σ : ps_S) : Option ((Int32 × ps_S) ⊕ ((ps_S) ⊕ (ps_S) ⊕ (ps_S))) :=
  (if a7 = 0 then (ps_let (a6 + (1 : Int32)) fun x5 =>
  some (.inl (x5, σ)))
  else some (.inr (.inr (.inl σ))))
set_option maxHeartbeats 4000000 in
set_option maxRecDepth 100000 in
theorem tX4_paintFrom_J107 {z : ps_X} (C : ps_C z cX4_paintFrom 8 "PartSums") {f9 n9 : Nat} (Z : ps_Z z f9 n9) (hzz : 1 ≤ f9 ∧ 60 ≤ n9) {rec : Nat → Int32 → Int32 → Int32 → ps_S → Option (Int32 × ps_S)} {rmr : Room} (hrr : rmr.cells = 0 ∧ rmr.slots = 0 ∧ rmr.frames + 1 ≤ f9 ∧ 8 + (8 + 11) + rmr.locals ≤ n9) (hrec : ∀ {k1 : Nat} {a2 : Int32} {a3 : Int32} {a4 : Int32} {σ : ps_S} {r : Int32 × ps_S}, ps_kd k1 = 1 → rec k1 a2 a3 a4 σ = some r → ps_MI (z_l z) yX4_paintFrom (ps_wm yX4_paintFrom cX4_paintFrom 8 (some .boolean)) rmr [.ref (z_ad z 1), .ref (z_ad z k1), .int a2, .int a3, .int a4] (z_E z) σ r.1 r.2) {k1 : Nat} {a2 : Int32} {a3 : Int32} {a4 : Int32} {a5 : Int32} {a6 : Int32} {a7 : Int32} {σ : ps_S} (hk1 : ps_kd k1 = 1) {r : (Int32 × ps_S) ⊕ ((ps_S) ⊕ (ps_S) ⊕ (ps_S))} (h : fX4_paintFrom_J107 rec k1 a2 a3 a4 a5 a6 a7 σ = some r) (k : ps_k (pX4_paintFrom_S39 z k1 a2 a3 a4 a5) (qX4_paintFrom_S39 z k1 a2 a3 a4 a5) r) : ps_at z 8 107 [(0, .ref (z_ad z 1)), (1, .ref (z_ad z k1)), (2, .int a2), (3, .int a3), (4, .int a4), (5, .int a5), (6, .int a6), (7, .int a7)] [] σ := by
  unfold fX4_paintFrom_J107 at h
  refine ps_iload C (pc := 107) dX4_paintFrom_107 7 rfl ?_
  refine ps_if_eq C (pc := 109) 114 dX4_paintFrom_109 (by decide) (fun hc => ?_) (fun hc => ?_)
  · have h := ps_ift hc h
    refine ps_iincL C (pc := 114) (zz := 1) (lw := fun x5 => [(6, .int x5), (0, .ref (z_ad z 1)), (1, .ref (z_ad z k1)), (2, .int a2), (3, .int a3), (4, .int a4), (5, .int a5), (7, .int a7)]) dX4_paintFrom_114 6 rfl (by decide) (by decide) (fun _ => rfl) h (fun x5 h => ?_)
    refine ps_goto C (pc := 117) 39 dX4_paintFrom_117 (by decide) ?_
    obtain rfl := Option.some.inj h
    exact ps_sub [1, 2, 3, 4, 5, 6, 0] rfl k
  · have h := ps_iff hc h
    obtain rfl := Option.some.inj h
    exact ps_sub [] rfl k
def fX4_paintFrom_J57 (rec : Nat → Int32 → Int32 → Int32 → ps_S → Option (Int32 × ps_S)) (k1 : Nat) (a2 : Int32) (a3 : Int32) (a4 : Int32) (a5 : Int32) (a6 : Int32) (u0 : Int32) (σ : ps_S) : Option ((Int32 × ps_S) ⊕ ((ps_S) ⊕ (ps_S) ⊕ (ps_S))) :=
  (ps_ck a6 (ps_ln k1) (((fX1_mates a4 σ).bind fun q4 =>
  (if ((σ.1 k1 (Int32.toNatClampNeg a6)) &&& q4) = 0 then (ps_ck a6 (ps_ln k1) ((ps_ck a6 (ps_ln k1) ((ps_let (ps_ui σ k1 (Int32.toNatClampNeg a6) ((σ.1 k1 (Int32.toNatClampNeg a6)) ||| a5)) fun σ8 =>
  ((rec k1 a2 a3 (a4 + (1 : Int32)) σ8).bind fun q9 =>
  (if q9.1 = 0 then (ps_ck a6 (ps_ln k1) ((ps_ck a6 (ps_ln k1) ((ps_let (ps_ui q9.2 k1 (Int32.toNatClampNeg a6) ((q9.2.1 k1 (Int32.toNatClampNeg a6)) ^^^ a5)) fun σ12 =>
  fX4_paintFrom_J107 rec k1 a2 a3 a4 a5 a6 u0 σ12)))))
  else some (.inr (.inl q9.2)))))))))
  else fX4_paintFrom_J107 rec k1 a2 a3 a4 a5 a6 u0 σ))))
theorem hdX4_paintFrom : yX4_paintFrom.cls ≠ "java/lang/invoke/MethodHandle" ∧ yX4_paintFrom.cls ≠ "java/lang/invoke/VarHandle" ∧ (parseMethodDescriptor yX4_paintFrom.desc).map (fun d => d.parameters.length) = some 5 := by decide +kernel
set_option maxHeartbeats 4000000 in
set_option maxRecDepth 100000 in
theorem tX4_paintFrom_J57 {z : ps_X} (C : ps_C z cX4_paintFrom 8 "PartSums") {f9 n9 : Nat} (Z : ps_Z z f9 n9) (hzz : 1 ≤ f9 ∧ 60 ≤ n9) {rec : Nat → Int32 → Int32 → Int32 → ps_S → Option (Int32 × ps_S)} {rmr : Room} (hrr : rmr.cells = 0 ∧ rmr.slots = 0 ∧ rmr.frames + 1 ≤ f9 ∧ 8 + (8 + 11) + rmr.locals ≤ n9) (hrec : ∀ {k1 : Nat} {a2 : Int32} {a3 : Int32} {a4 : Int32} {σ : ps_S} {r : Int32 × ps_S}, ps_kd k1 = 1 → rec k1 a2 a3 a4 σ = some r → ps_MI (z_l z) yX4_paintFrom (ps_wm yX4_paintFrom cX4_paintFrom 8 (some .boolean)) rmr [.ref (z_ad z 1), .ref (z_ad z k1), .int a2, .int a3, .int a4] (z_E z) σ r.1 r.2) {k1 : Nat} {a2 : Int32} {a3 : Int32} {a4 : Int32} {a5 : Int32} {a6 : Int32} {u0 : Int32} {σ : ps_S} (hk1 : ps_kd k1 = 1) {r : (Int32 × ps_S) ⊕ ((ps_S) ⊕ (ps_S) ⊕ (ps_S))} (h : fX4_paintFrom_J57 rec k1 a2 a3 a4 a5 a6 u0 σ = some r) (k : ps_k (pX4_paintFrom_S39 z k1 a2 a3 a4 a5) (qX4_paintFrom_S39 z k1 a2 a3 a4 a5) r) : ps_at z 8 57 [(0, .ref (z_ad z 1)), (1, .ref (z_ad z k1)), (2, .int a2), (3, .int a3), (4, .int a4), (5, .int a5), (6, .int a6)] [.int u0] σ := by
  unfold fX4_paintFrom_J57 at h
  refine ps_istore C (pc := 57) (lv' := [(7, .int u0), (0, .ref (z_ad z 1)), (1, .ref (z_ad z k1)), (2, .int a2), (3, .int a3), (4, .int a4), (5, .int a5), (6, .int a6)]) dX4_paintFrom_57 (by decide) rfl ?_
  refine ps_aload_n C (pc := 59) dX4_paintFrom_59 2 rfl ?_
  refine ps_iload C (pc := 60) dX4_paintFrom_60 7 rfl ?_
  obtain ⟨hi3, h⟩ := ps_ck_s h
  refine ps_iald C (pc := 62) k1 hk1 rfl hi3 dX4_paintFrom_62 ?_
  refine ps_aload_n C (pc := 63) dX4_paintFrom_63 1 rfl ?_
  refine ps_iload C (pc := 64) dX4_paintFrom_64 5 rfl ?_
  obtain ⟨q4, hq4, h⟩ := ps_bd h
  refine ps_callVI C Z (pc := 66) (As := [.int a4]) (k0 := 1) (mX1_mates  hq4) (Cn := "PartSums$Ground") rfl tw_420 tw_421 tw_422 tw_66 tw_423 hdX1_mates rfl rfl ⟨Nat.le_trans (by decide) hzz.1, Nat.le_trans (by decide) hzz.2⟩ (by decide) ps_o1 rfl rfl (Nat.le_of_ble_eq_true rfl) dX4_paintFrom_66 rfl ?_
  refine ps_iand C (pc := 69) dX4_paintFrom_69 ?_
  refine ps_if_ne C (pc := 70) 107 dX4_paintFrom_70 (by decide) (fun hc => ?_) (fun hc => ?_)
  · have h := ps_iff hc h
    exact ps_sub [1, 2, 3, 4, 5, 6, 7, 0] rfl (tX4_paintFrom_J107 C Z hzz hrr hrec hk1 h k)
  · have h := ps_ift hc h
    refine ps_aload_n C (pc := 73) dX4_paintFrom_73 2 rfl ?_
    refine ps_iload C (pc := 74) dX4_paintFrom_74 7 rfl ?_
    refine ps_dup2_11 C (pc := 76) dX4_paintFrom_76 rfl rfl ?_
    obtain ⟨hi6, h⟩ := ps_ck_s h
    refine ps_iald C (pc := 77) k1 hk1 rfl hi6 dX4_paintFrom_77 ?_
    refine ps_iload C (pc := 78) dX4_paintFrom_78 6 rfl ?_
    refine ps_ior C (pc := 80) dX4_paintFrom_80 ?_
    obtain ⟨hi7, h⟩ := ps_ck_s h
    refine ps_iastL C (pc := 81) k1 hk1 rfl hi7 dX4_paintFrom_81 h (fun σ8 h => ?_)
    refine ps_aload_n C (pc := 82) dX4_paintFrom_82 1 rfl ?_
    refine ps_aload_n C (pc := 83) dX4_paintFrom_83 2 rfl ?_
    refine ps_iload_n C (pc := 84) dX4_paintFrom_84 3 rfl ?_
    refine ps_iload_n C (pc := 85) dX4_paintFrom_85 4 rfl ?_
    refine ps_iload C (pc := 86) dX4_paintFrom_86 5 rfl ?_
    refine ps_iconst C (pc := 88) (v := 1) dX4_paintFrom_88 (by decide) ?_
    refine ps_iadd C (pc := 89) dX4_paintFrom_89 ?_
    obtain ⟨q9, hq9, h⟩ := ps_bd h
    refine ps_callSI C Z (pc := 90) (As := [.ref (z_ad z 1), .ref (z_ad z k1), .int a2, .int a3, .int (a4 + (1 : Int32))]) (hrec hk1 hq9) tw_605 tw_606 tw_65 tw_607 hdX4_paintFrom hrr.1 hrr.2.1 hrr.2.2 rfl (Nat.le_of_ble_eq_true rfl) dX4_paintFrom_90 rfl ?_
    refine ps_if_eq C (pc := 93) 98 dX4_paintFrom_93 (by decide) (fun hc => ?_) (fun hc => ?_)
    · have h := ps_ift hc h
      refine ps_aload_n C (pc := 98) dX4_paintFrom_98 2 rfl ?_
      refine ps_iload C (pc := 99) dX4_paintFrom_99 7 rfl ?_
      refine ps_dup2_11 C (pc := 101) dX4_paintFrom_101 rfl rfl ?_
      obtain ⟨hi10, h⟩ := ps_ck_s h
      refine ps_iald C (pc := 102) k1 hk1 rfl hi10 dX4_paintFrom_102 ?_
      refine ps_iload C (pc := 103) dX4_paintFrom_103 6 rfl ?_
      refine ps_ixor C (pc := 105) dX4_paintFrom_105 ?_
      obtain ⟨hi11, h⟩ := ps_ck_s h
      refine ps_iastL C (pc := 106) k1 hk1 rfl hi11 dX4_paintFrom_106 h (fun σ12 h => ?_)
      exact ps_sub [1, 2, 3, 4, 5, 6, 7, 0] rfl (tX4_paintFrom_J107 C Z hzz hrr hrec hk1 h k)
    · have h := ps_iff hc h
      obtain rfl := Option.some.inj h
      exact ps_sub [] rfl k
def fX4_paintFrom_S39 (rec : Nat → Int32 → Int32 → Int32 → ps_S → Option (Int32 × ps_S)) (k1 : Nat) (a2 : Int32) (a3 : Int32) (a4 : Int32) (a5 : Int32) (a6 : Int32) (σ : ps_S) : Option ((Int32 × ps_S) ⊕ ((ps_S) ⊕ (ps_S) ⊕ (ps_S))) :=
  (if a3 ≤ a6 then some (.inr (.inr (.inr σ)))
  else (ps_ck a6 (ps_ln k1) ((if (σ.1 k1 (Int32.toNatClampNeg a6)) = 0 then fX4_paintFrom_J57 rec k1 a2 a3 a4 a5 a6 (1 : Int32) σ
  else fX4_paintFrom_J57 rec k1 a2 a3 a4 a5 a6 (0 : Int32) σ))))
set_option maxHeartbeats 4000000 in
set_option maxRecDepth 100000 in
theorem tX4_paintFrom_S39 {z : ps_X} (C : ps_C z cX4_paintFrom 8 "PartSums") {f9 n9 : Nat} (Z : ps_Z z f9 n9) (hzz : 1 ≤ f9 ∧ 60 ≤ n9) {rec : Nat → Int32 → Int32 → Int32 → ps_S → Option (Int32 × ps_S)} {rmr : Room} (hrr : rmr.cells = 0 ∧ rmr.slots = 0 ∧ rmr.frames + 1 ≤ f9 ∧ 8 + (8 + 11) + rmr.locals ≤ n9) (hrec : ∀ {k1 : Nat} {a2 : Int32} {a3 : Int32} {a4 : Int32} {σ : ps_S} {r : Int32 × ps_S}, ps_kd k1 = 1 → rec k1 a2 a3 a4 σ = some r → ps_MI (z_l z) yX4_paintFrom (ps_wm yX4_paintFrom cX4_paintFrom 8 (some .boolean)) rmr [.ref (z_ad z 1), .ref (z_ad z k1), .int a2, .int a3, .int a4] (z_E z) σ r.1 r.2) (k1 : Nat) (a2 : Int32) (a3 : Int32) (a4 : Int32) (a5 : Int32) (hk1 : ps_kd k1 = 1) (s : Int32 × ps_S) (r : (Int32 × ps_S) ⊕ ((ps_S) ⊕ (ps_S) ⊕ (ps_S))) (h : fX4_paintFrom_S39 rec k1 a2 a3 a4 a5 s.1 s.2 = some r) (k : ps_k (pX4_paintFrom_S39 z k1 a2 a3 a4 a5) (qX4_paintFrom_S39 z k1 a2 a3 a4 a5) r) : pX4_paintFrom_S39 z k1 a2 a3 a4 a5 s := by
  obtain ⟨a6, σ⟩ := s
  unfold fX4_paintFrom_S39 at h
  unfold pX4_paintFrom_S39
  refine ps_iload C (pc := 39) dX4_paintFrom_39 6 rfl ?_
  refine ps_iload_n C (pc := 41) dX4_paintFrom_41 3 rfl ?_
  refine ps_icmp_ge C (pc := 42) 120 dX4_paintFrom_42 (by decide) (fun hc => ?_) (fun hc => ?_)
  · have h := ps_ift hc h
    obtain rfl := Option.some.inj h
    exact ps_sub [] rfl k
  · have h := ps_iff hc h
    refine ps_aload_n C (pc := 45) dX4_paintFrom_45 1 rfl ?_
    refine ps_iload C (pc := 46) dX4_paintFrom_46 6 rfl ?_
    obtain ⟨hi2, h⟩ := ps_ck_s h
    refine ps_iald C (pc := 48) k1 hk1 rfl hi2 dX4_paintFrom_48 ?_
    refine ps_if_ne C (pc := 49) 56 dX4_paintFrom_49 (by decide) (fun hc => ?_) (fun hc => ?_)
    · have h := ps_iff hc h
      refine ps_iconst C (pc := 56) (v := 0) dX4_paintFrom_56 (by decide) ?_
      exact ps_sub [0, 1, 2, 3, 4, 5, 6] rfl (tX4_paintFrom_J57 C Z hzz hrr hrec hk1 h k)
    · have h := ps_ift hc h
      refine ps_iconst C (pc := 52) (v := 1) dX4_paintFrom_52 (by decide) ?_
      refine ps_goto C (pc := 53) 57 dX4_paintFrom_53 (by decide) ?_
      exact ps_sub [0, 1, 2, 3, 4, 5, 6] rfl (tX4_paintFrom_J57 C Z hzz hrr hrec hk1 h k)
def fX4_paintFrom_B (rec : Nat → Int32 → Int32 → Int32 → ps_S → Option (Int32 × ps_S)) (k1 : Nat) (a2 : Int32) (a3 : Int32) (a4 : Int32) (σ : ps_S) : Option (Int32 × ps_S) :=
  (if a4 < (σ.1 1 0) then (ps_let ((1 : Int32) <<< (a4 &&& 31)) fun x1 =>
  (if (a2 &&& x1) = 0 then ((rec k1 a2 a3 (a4 + (1 : Int32)) σ).bind fun q17 =>
  (ps_cb q17.1 (some (q17.1, q17.2))))
  else ((ps_lp (fun s => fX4_paintFrom_S39 rec k1 a2 a3 a4 x1 s.1 s.2) 100000 ((0 : Int32), σ)).bind fun e13 =>
  match e13 with | .inl y14 => some ((1 : Int32), y14) | .inr (.inl y15) => some ((0 : Int32), y15) | .inr (.inr y16) => some ((0 : Int32), y16))))
  else some ((1 : Int32), σ))
set_option maxHeartbeats 4000000 in
set_option maxRecDepth 100000 in
theorem tX4_paintFrom_B {z : ps_X} (C : ps_C z cX4_paintFrom 8 "PartSums") {f9 n9 : Nat} (Z : ps_Z z f9 n9) (hzz : 1 ≤ f9 ∧ 60 ≤ n9) {rec : Nat → Int32 → Int32 → Int32 → ps_S → Option (Int32 × ps_S)} {rmr : Room} (hrr : rmr.cells = 0 ∧ rmr.slots = 0 ∧ rmr.frames + 1 ≤ f9 ∧ 8 + (8 + 11) + rmr.locals ≤ n9) (hrec : ∀ {k1 : Nat} {a2 : Int32} {a3 : Int32} {a4 : Int32} {σ : ps_S} {r : Int32 × ps_S}, ps_kd k1 = 1 → rec k1 a2 a3 a4 σ = some r → ps_MI (z_l z) yX4_paintFrom (ps_wm yX4_paintFrom cX4_paintFrom 8 (some .boolean)) rmr [.ref (z_ad z 1), .ref (z_ad z k1), .int a2, .int a3, .int a4] (z_E z) σ r.1 r.2) {k1 : Nat} {a2 : Int32} {a3 : Int32} {a4 : Int32} {σ : ps_S} (hk1 : ps_kd k1 = 1) {r : Int32 × ps_S} (h : fX4_paintFrom_B rec k1 a2 a3 a4 σ = some r) (k : ps_KZ z 8 cX4_paintFrom r.1 r.2) : ps_at z 8 0 [(0, .ref (z_ad z 1)), (1, .ref (z_ad z k1)), (2, .int a2), (3, .int a3), (4, .int a4)] [] σ := by
  unfold fX4_paintFrom_B at h
  refine ps_iload C (pc := 0) dX4_paintFrom_0 4 rfl ?_
  refine ps_aload_n C (pc := 2) dX4_paintFrom_2 0 rfl ?_
  refine pg_1_0 C (pc := 3) tw_100 dX4_paintFrom_3 ?_
  refine ps_icmp_lt C (pc := 6) 11 dX4_paintFrom_6 (by decide) (fun hc => ?_) (fun hc => ?_)
  · have h := ps_ift hc h
    refine ps_iconst C (pc := 11) (v := 1) dX4_paintFrom_11 (by decide) ?_
    refine ps_iload C (pc := 12) dX4_paintFrom_12 4 rfl ?_
    refine ps_ishl C (pc := 14) dX4_paintFrom_14 ?_
    refine ps_istoreL C (pc := 15) (lw := fun x1 => [(5, .int x1), (0, .ref (z_ad z 1)), (1, .ref (z_ad z k1)), (2, .int a2), (3, .int a3), (4, .int a4)]) dX4_paintFrom_15 (by decide) (fun _ => rfl) h (fun x1 h => ?_)
    refine ps_iload_n C (pc := 17) dX4_paintFrom_17 3 rfl ?_
    refine ps_iload C (pc := 18) dX4_paintFrom_18 0 rfl ?_
    refine ps_iand C (pc := 20) dX4_paintFrom_20 ?_
    refine ps_if_ne C (pc := 21) 36 dX4_paintFrom_21 (by decide) (fun hc => ?_) (fun hc => ?_)
    · have h := ps_iff hc h
      refine ps_iconst C (pc := 36) (v := 0) dX4_paintFrom_36 (by decide) ?_
      refine ps_istore C (pc := 37) (lv' := [(6, .int (0 : Int32)), (5, .int x1), (0, .ref (z_ad z 1)), (1, .ref (z_ad z k1)), (2, .int a2), (3, .int a3), (4, .int a4)]) dX4_paintFrom_37 (by decide) rfl ?_
      obtain ⟨e13, he13, h⟩ := ps_bd h
      refine ps_sub [2, 3, 4, 5, 6, 1, 0] rfl ?_
      refine ps_loop (P := pX4_paintFrom_S39 z k1 a2 a3 a4 x1) (K := qX4_paintFrom_S39 z k1 a2 a3 a4 x1) (fun s r h k => tX4_paintFrom_S39 C Z hzz hrr hrec k1 a2 a3 a4 x1 hk1 s r h k) _ _ _ he13 ?_
      unfold qX4_paintFrom_S39
      rcases e13 with y14 | w_y14
      · refine ps_iconst C (pc := 96) (v := 1) dX4_paintFrom_96 (by decide) ?_
        obtain rfl := Option.some.inj h
        exact k _ _ (Or.inr rfl) dX4_paintFrom_97
      · rcases w_y14 with y15 | w_y15
        · refine ps_iconst C (pc := 112) (v := 0) dX4_paintFrom_112 (by decide) ?_
          obtain rfl := Option.some.inj h
          exact k _ _ (Or.inl rfl) dX4_paintFrom_113
        · generalize w_y15 = y16 at h ⊢
          refine ps_iconst C (pc := 120) (v := 0) dX4_paintFrom_120 (by decide) ?_
          obtain rfl := Option.some.inj h
          exact k _ _ (Or.inl rfl) dX4_paintFrom_121
    · have h := ps_ift hc h
      refine ps_aload_n C (pc := 24) dX4_paintFrom_24 1 rfl ?_
      refine ps_aload_n C (pc := 25) dX4_paintFrom_25 2 rfl ?_
      refine ps_iload_n C (pc := 26) dX4_paintFrom_26 3 rfl ?_
      refine ps_iload_n C (pc := 27) dX4_paintFrom_27 4 rfl ?_
      refine ps_iload C (pc := 28) dX4_paintFrom_28 5 rfl ?_
      refine ps_iconst C (pc := 30) (v := 1) dX4_paintFrom_30 (by decide) ?_
      refine ps_iadd C (pc := 31) dX4_paintFrom_31 ?_
      obtain ⟨q17, hq17, h⟩ := ps_bd h
      refine ps_callSI C Z (pc := 32) (As := [.ref (z_ad z 1), .ref (z_ad z k1), .int a2, .int a3, .int (a4 + (1 : Int32))]) (hrec hk1 hq17) tw_605 tw_606 tw_65 tw_607 hdX4_paintFrom hrr.1 hrr.2.1 hrr.2.2 rfl (Nat.le_of_ble_eq_true rfl) dX4_paintFrom_32 rfl ?_
      obtain ⟨hb18, h⟩ := ps_cb_s h
      obtain rfl := Option.some.inj h
      exact k _ _ hb18 dX4_paintFrom_35
  · have h := ps_iff hc h
    refine ps_iconst C (pc := 9) (v := 1) dX4_paintFrom_9 (by decide) ?_
    obtain rfl := Option.some.inj h
    exact k _ _ (Or.inr rfl) dX4_paintFrom_10
def fX4_paintFrom : Nat → Nat → Int32 → Int32 → Int32 → ps_S → Option (Int32 × ps_S)
  | 0 => fun _ _ _ _ _ => none
  | d + 1 => fX4_paintFrom_B (fX4_paintFrom d)
def rmX4_paintFrom (d : Nat) : Room := { frames := d + 2, cells := 0, slots := 0, locals := 60 + d * 27 }
theorem mX4_paintFrom {l : Launch} {E : ps_E} : ∀ (d : Nat) {σ : ps_S} {k1 : Nat} {a2 : Int32} {a3 : Int32} {a4 : Int32} {r : Int32 × ps_S} (hk1 : ps_kd k1 = 1) (h : fX4_paintFrom d k1 a2 a3 a4 σ = some r), ps_MI l yX4_paintFrom (ps_wm yX4_paintFrom cX4_paintFrom 8 (some .boolean)) (rmX4_paintFrom d) [.ref (e_ad E 1), .ref (e_ad E k1), .int a2, .int a3, .int a4] E σ r.1 r.2
  | 0, _, _, _, _, _, _, _, h => by cases h
  | d + 1, _, _, _, _, _, r, hk1, h => ps_metZ yX4_paintFrom (rmX4_paintFrom (d + 1)) 8 (own := "PartSums") r.1 (by decide +kernel) rfl (Nat.le_of_ble_eq_true rfl) rfl (fun z e1 e2 e3 e4 e5 C k => by
    subst e2
    subst e5
    exact tX4_paintFrom_B C (f9 := (rmX4_paintFrom (d + 1)).frames) (n9 := (rmX4_paintFrom (d + 1)).locals) (ps_Zof e1 e3 e4) ⟨by simp only [rmX4_paintFrom]; omega, by simp only [rmX4_paintFrom]; omega⟩ (rec := fX4_paintFrom d) (rmr := rmX4_paintFrom d) ⟨rfl, rfl, by simp only [rmX4_paintFrom]; omega, by simp only [rmX4_paintFrom]; omega⟩ (fun hk1 h => mX4_paintFrom d hk1 h) hk1 h k)
def pX4_paintFewest_S2 (z : ps_X) (a1 : Int32) (s : Int32 × ps_S) : Prop := ps_at z 4 2 [(0, .ref (z_ad z 0)), (1, .int a1), (2, .int s.1)] [] s.2
def qX4_paintFewest_S2 (z : ps_X) (a1 : Int32) (x : (Int32 × ps_S) ⊕ (ps_S)) : Prop := match x with | .inl y => ps_at z 4 46 [(2, .int y.1)] [] y.2 | .inr y => ps_at z 4 54 [] [] y
def pX4_paintFewest_S10 (z : ps_X) (a1 : Int32) (a2 : Int32) (s : Int32 × ps_S) : Prop := ps_at z 4 10 [(0, .ref (z_ad z 0)), (1, .int a1), (2, .int a2), (3, .int s.1)] [] s.2
def qX4_paintFewest_S10 (z : ps_X) (a1 : Int32) (a2 : Int32) (x : (ps_S)) : Prop := match x with | y => ps_at z 4 29 [(0, .ref (z_ad z 0)), (1, .int a1), (2, .int a2)] [] y
def fX4_paintFewest_S10 (a1 : Int32) (a2 : Int32) (a3 : Int32) (σ : ps_S) : Option ((Int32 × ps_S) ⊕ ((ps_S))) :=
  (if (8 : Int32) ≤ a3 then some (.inr σ)
  else (ps_ck a3 8 ((ps_let (ps_ui σ 44 (Int32.toNatClampNeg a3) (0 : Int32)) fun σ2 =>
  (ps_let (a3 + (1 : Int32)) fun x3 =>
  some (.inl (x3, σ2)))))))
set_option maxHeartbeats 4000000 in
set_option maxRecDepth 100000 in
theorem tX4_paintFewest_S10 {z : ps_X} (C : ps_C z cX4_paintFewest 4 "PartSums") (Z : ps_Z z 13 357) (a1 : Int32) (a2 : Int32)  (s : Int32 × ps_S) (r : (Int32 × ps_S) ⊕ ((ps_S))) (h : fX4_paintFewest_S10 a1 a2 s.1 s.2 = some r) (k : ps_k (pX4_paintFewest_S10 z a1 a2) (qX4_paintFewest_S10 z a1 a2) r) : pX4_paintFewest_S10 z a1 a2 s := by
  obtain ⟨a3, σ⟩ := s
  unfold fX4_paintFewest_S10 at h
  unfold pX4_paintFewest_S10
  refine ps_iload_n C (pc := 10) dX4_paintFewest_10 3 rfl ?_
  refine ps_bipush C (pc := 11) (v := 8) dX4_paintFewest_11 (by decide) ?_
  refine ps_icmp_ge C (pc := 13) 29 dX4_paintFewest_13 (by decide) (fun hc => ?_) (fun hc => ?_)
  · have h := ps_ift hc h
    obtain rfl := Option.some.inj h
    exact ps_sub [0, 1, 2] rfl k
  · have h := ps_iff hc h
    refine ps_aload_n C (pc := 16) dX4_paintFewest_16 0 rfl ?_
    refine pg_0_8 C (pc := 17) tw_214 dX4_paintFewest_17 ?_
    refine ps_iload_n C (pc := 20) dX4_paintFewest_20 3 rfl ?_
    refine ps_iconst C (pc := 21) (v := 0) dX4_paintFewest_21 (by decide) ?_
    obtain ⟨hi1, h⟩ := ps_ck_s h
    refine ps_iastL C (pc := 22) 44 rfl rfl hi1 dX4_paintFewest_22 h (fun σ2 h => ?_)
    refine ps_iincL C (pc := 23) (zz := 1) (lw := fun x3 => [(3, .int x3), (0, .ref (z_ad z 0)), (1, .int a1), (2, .int a2)]) dX4_paintFewest_23 3 rfl (by decide) (by decide) (fun _ => rfl) h (fun x3 h => ?_)
    refine ps_goto C (pc := 26) 10 dX4_paintFewest_26 (by decide) ?_
    obtain rfl := Option.some.inj h
    exact ps_sub [1, 2, 3, 0] rfl k
def fX4_paintFewest_S2 (a1 : Int32) (a2 : Int32) (σ : ps_S) : Option ((Int32 × ps_S) ⊕ ((Int32 × ps_S) ⊕ (ps_S))) :=
  (if (8 : Int32) < a2 then some (.inr (.inr σ))
  else ((ps_lp (fun s => fX4_paintFewest_S10 a1 a2 s.1 s.2) 100000 ((0 : Int32), σ)).bind fun e4 =>
  ((fX4_paintFrom 10 44 a1 a2 (0 : Int32) e4).bind fun q5 =>
  (if q5.1 = 0 then (ps_let (a2 + (1 : Int32)) fun x6 =>
  some (.inl (x6, q5.2)))
  else some (.inr (.inl (a2, q5.2)))))))
set_option maxHeartbeats 4000000 in
set_option maxRecDepth 100000 in
theorem tX4_paintFewest_S2 {z : ps_X} (C : ps_C z cX4_paintFewest 4 "PartSums") (Z : ps_Z z 13 357) (a1 : Int32)  (s : Int32 × ps_S) (r : (Int32 × ps_S) ⊕ ((Int32 × ps_S) ⊕ (ps_S))) (h : fX4_paintFewest_S2 a1 s.1 s.2 = some r) (k : ps_k (pX4_paintFewest_S2 z a1) (qX4_paintFewest_S2 z a1) r) : pX4_paintFewest_S2 z a1 s := by
  obtain ⟨a2, σ⟩ := s
  unfold fX4_paintFewest_S2 at h
  unfold pX4_paintFewest_S2
  refine ps_iload_n C (pc := 2) dX4_paintFewest_2 2 rfl ?_
  refine ps_bipush C (pc := 3) (v := 8) dX4_paintFewest_3 (by decide) ?_
  refine ps_icmp_gt C (pc := 5) 54 dX4_paintFewest_5 (by decide) (fun hc => ?_) (fun hc => ?_)
  · have h := ps_ift hc h
    obtain rfl := Option.some.inj h
    exact ps_sub [] rfl k
  · have h := ps_iff hc h
    refine ps_iconst C (pc := 8) (v := 0) dX4_paintFewest_8 (by decide) ?_
    refine ps_istore_n C (pc := 9) (lv' := [(3, .int (0 : Int32)), (0, .ref (z_ad z 0)), (1, .int a1), (2, .int a2)]) dX4_paintFewest_9 (by decide) rfl ?_
    obtain ⟨e4, he4, h⟩ := ps_bd h
    refine ps_sub [1, 2, 3, 0] rfl ?_
    refine ps_loop (P := pX4_paintFewest_S10 z a1 a2) (K := qX4_paintFewest_S10 z a1 a2) (fun s r h k => tX4_paintFewest_S10 C Z a1 a2  s r h k) _ _ _ he4 ?_
    unfold qX4_paintFewest_S10
    refine ps_aload_n C (pc := 29) dX4_paintFewest_29 0 rfl ?_
    refine pg_0_0 C (pc := 30) tw_206 dX4_paintFewest_30 ?_
    refine ps_aload_n C (pc := 33) dX4_paintFewest_33 0 rfl ?_
    refine pg_0_8 C (pc := 34) tw_214 dX4_paintFewest_34 ?_
    refine ps_iload_n C (pc := 37) dX4_paintFewest_37 1 rfl ?_
    refine ps_iload_n C (pc := 38) dX4_paintFewest_38 2 rfl ?_
    refine ps_iconst C (pc := 39) (v := 0) dX4_paintFewest_39 (by decide) ?_
    obtain ⟨q5, hq5, h⟩ := ps_bd h
    refine ps_callSI C Z (pc := 40) (As := [.ref (z_ad z 1), .ref (z_ad z 44), .int a1, .int a2, .int (0 : Int32)]) (mX4_paintFrom 10 (by rfl) hq5) tw_605 tw_606 tw_65 tw_607 hdX4_paintFrom rfl rfl ⟨by decide, by decide⟩ rfl (Nat.le_of_ble_eq_true rfl) dX4_paintFewest_40 rfl ?_
    refine ps_if_eq C (pc := 43) 48 dX4_paintFewest_43 (by decide) (fun hc => ?_) (fun hc => ?_)
    · have h := ps_ift hc h
      refine ps_iincL C (pc := 48) (zz := 1) (lw := fun x6 => [(2, .int x6), (0, .ref (z_ad z 0)), (1, .int a1)]) dX4_paintFewest_48 2 rfl (by decide) (by decide) (fun _ => rfl) h (fun x6 h => ?_)
      refine ps_goto C (pc := 51) 2 dX4_paintFewest_51 (by decide) ?_
      obtain rfl := Option.some.inj h
      exact ps_sub [1, 2, 0] rfl k
    · have h := ps_iff hc h
      obtain rfl := Option.some.inj h
      exact ps_sub [2] rfl k
def fX4_paintFewest (a1 : Int32) (σ : ps_S) : Option (Int32 × ps_S) :=
  ((ps_lp (fun s => fX4_paintFewest_S2 a1 s.1 s.2) 100000 ((0 : Int32), σ)).bind fun e7 =>
  match e7 with | .inl y8 => some (y8.1, y8.2) | .inr y9 => some ((-1 : Int32), y9))
set_option maxHeartbeats 4000000 in
set_option maxRecDepth 100000 in
theorem tX4_paintFewest {z : ps_X} (C : ps_C z cX4_paintFewest 4 "PartSums") (Z : ps_Z z 13 357) {a1 : Int32} {σ : ps_S}  {r : Int32 × ps_S} (h : fX4_paintFewest a1 σ = some r) (k : ps_KI z 4 cX4_paintFewest r.1 r.2) : ps_at z 4 0 [(0, .ref (z_ad z 0)), (1, .int a1)] [] σ := by
  unfold fX4_paintFewest at h
  refine ps_iconst C (pc := 0) (v := 0) dX4_paintFewest_0 (by decide) ?_
  refine ps_istore_n C (pc := 1) (lv' := [(2, .int (0 : Int32)), (0, .ref (z_ad z 0)), (1, .int a1)]) dX4_paintFewest_1 (by decide) rfl ?_
  obtain ⟨e7, he7, h⟩ := ps_bd h
  refine ps_sub [1, 2, 0] rfl ?_
  refine ps_loop (P := pX4_paintFewest_S2 z a1) (K := qX4_paintFewest_S2 z a1) (fun s r h k => tX4_paintFewest_S2 C Z a1  s r h k) _ _ _ he7 ?_
  unfold qX4_paintFewest_S2
  rcases e7 with y8 | w_y8
  · refine ps_iload_n C (pc := 46) dX4_paintFewest_46 0 rfl ?_
    obtain rfl := Option.some.inj h
    exact k _ _ dX4_paintFewest_47
  · generalize w_y8 = y9 at h ⊢
    refine ps_iconst C (pc := 54) (v := -1) dX4_paintFewest_54 (by decide) ?_
    obtain rfl := Option.some.inj h
    exact k _ _ dX4_paintFewest_55
def rmX4_paintFewest : Room := { frames := 13, cells := 0, slots := 0, locals := 357 }
theorem mX4_paintFewest {l : Launch} {E : ps_E} {σ : ps_S} {a1 : Int32} {r : Int32 × ps_S}  (h : fX4_paintFewest a1 σ = some r) : ps_MI l yX4_paintFewest (ps_wm yX4_paintFewest cX4_paintFewest 4 (some .int)) rmX4_paintFewest [.ref (e_ad E 0), .int a1] E σ r.1 r.2 :=
  ps_metI yX4_paintFewest rmX4_paintFewest 4 (own := "PartSums") r.1 (by decide +kernel) rfl (Nat.le_of_ble_eq_true rfl) rfl (fun z e1 e2 e3 e4 e5 C k => by
    subst e5
    exact tX4_paintFewest C (ps_Zof e1 e3 e4)  h k)
theorem hdX4_paintFewest : yX4_paintFewest.cls ≠ "java/lang/invoke/MethodHandle" ∧ yX4_paintFewest.cls ≠ "java/lang/invoke/VarHandle" ∧ (parseMethodDescriptor yX4_paintFewest.desc).map (fun d => d.parameters.length) = some 1 := by decide +kernel
def fX4_doDeed (a1 : Int32) (σ : ps_S) : Option (Int32 × ps_S) :=
  ((fX4_nextSeed a1).bind fun q1 =>
  ((fX4_draw q1 (3 : Int32)).bind fun q2 =>
  ((fX4_nextSeed q1).bind fun q3 =>
  (if q2 = 0 then ((fX4_draw q3 (σ.1 1 0)).bind fun q14 =>
  ((fX4_nextSeed q3).bind fun q15 =>
  ((fX4_draw q15 (σ.1 1 0)).bind fun q16 =>
  (if q14 = q16 then some (q15, σ)
  else ((fX1_turnPair q14 q16 σ).bind fun q17 =>
  some (q15, q17))))))
  else ((fX1_countSets σ).bind fun q4 =>
  ((fX4_draw q3 q4).bind fun q5 =>
  (if q2 = (2 : Int32) then (ps_ck (4 : Int32) 5 ((ps_ck q5 256 ((ps_let (ps_ui σ (2 + 1 + (Int32.toNatClampNeg (4 : Int32))) (Int32.toNatClampNeg q5) (0 : Int32)) fun σ13 =>
  some (q3, σ13))))))
  else ((fX4_nextSeed q3).bind fun q6 =>
  (ps_ck (4 : Int32) 5 (((fX4_draw q6 (100 : Int32)).bind fun q8 =>
  (ps_ck q5 256 ((ps_let (ps_ui σ (2 + 1 + (Int32.toNatClampNeg (4 : Int32))) (Int32.toNatClampNeg q5) (q8 + (1 : Int32))) fun σ10 =>
  some (q6, σ10)))))))))))))))
set_option maxHeartbeats 4000000 in
set_option maxRecDepth 100000 in
theorem tX4_doDeed {z : ps_X} (C : ps_C z cX4_doDeed 6 "PartSums") (Z : ps_Z z 1 22) {a1 : Int32} {σ : ps_S}  {r : Int32 × ps_S} (h : fX4_doDeed a1 σ = some r) (k : ps_KI z 6 cX4_doDeed r.1 r.2) : ps_at z 6 0 [(0, .ref (z_ad z 0)), (1, .int a1)] [] σ := by
  unfold fX4_doDeed at h
  refine ps_iload_n C (pc := 0) dX4_doDeed_0 1 rfl ?_
  obtain ⟨q1, hq1, h⟩ := ps_bd h
  refine ps_callSI C Z (pc := 1) (As := [.int a1]) (mX4_nextSeed  hq1) tw_665 tw_666 tw_65 tw_667 hdX4_nextSeed rfl rfl ⟨by decide, by decide⟩ rfl (Nat.le_of_ble_eq_true rfl) dX4_doDeed_1 rfl ?_
  refine ps_istore_n C (pc := 4) (lv' := [(2, .int q1), (0, .ref (z_ad z 0)), (1, .int a1)]) dX4_doDeed_4 (by decide) rfl ?_
  refine ps_iload_n C (pc := 5) dX4_doDeed_5 0 rfl ?_
  refine ps_iconst C (pc := 6) (v := 3) dX4_doDeed_6 (by decide) ?_
  obtain ⟨q2, hq2, h⟩ := ps_bd h
  refine ps_callSI C Z (pc := 7) (As := [.int q1, .int (3 : Int32)]) (mX4_draw  hq2) tw_669 tw_670 tw_65 tw_671 hdX4_draw rfl rfl ⟨by decide, by decide⟩ rfl (Nat.le_of_ble_eq_true rfl) dX4_doDeed_7 rfl ?_
  refine ps_istore_n C (pc := 10) (lv' := [(3, .int q2), (2, .int q1), (0, .ref (z_ad z 0)), (1, .int a1)]) dX4_doDeed_10 (by decide) rfl ?_
  refine ps_iload_n C (pc := 11) dX4_doDeed_11 1 rfl ?_
  obtain ⟨q3, hq3, h⟩ := ps_bd h
  refine ps_callSI C Z (pc := 12) (As := [.int q1]) (mX4_nextSeed  hq3) tw_665 tw_666 tw_65 tw_667 hdX4_nextSeed rfl rfl ⟨by decide, by decide⟩ rfl (Nat.le_of_ble_eq_true rfl) dX4_doDeed_12 rfl ?_
  refine ps_istore_n C (pc := 15) (lv' := [(2, .int q3), (3, .int q2), (0, .ref (z_ad z 0)), (1, .int a1)]) dX4_doDeed_15 (by decide) rfl ?_
  refine ps_iload_n C (pc := 16) dX4_doDeed_16 1 rfl ?_
  refine ps_if_ne C (pc := 17) 71 dX4_doDeed_17 (by decide) (fun hc => ?_) (fun hc => ?_)
  · have h := ps_iff hc h
    refine ps_iload_n C (pc := 71) dX4_doDeed_71 0 rfl ?_
    refine ps_aload_n C (pc := 72) dX4_doDeed_72 2 rfl ?_
    refine pg_0_0 C (pc := 73) tw_206 dX4_doDeed_73 ?_
    obtain ⟨q4, hq4, h⟩ := ps_bd h
    refine ps_callVI C Z (pc := 76) (As := []) (k0 := 1) (mX1_countSets  hq4) (Cn := "PartSums$Ground") rfl tw_457 tw_409 tw_410 tw_66 tw_411 hdX1_countSets rfl rfl ⟨by decide, by decide⟩ (by decide) ps_o1 rfl rfl (Nat.le_of_ble_eq_true rfl) dX4_doDeed_76 rfl ?_
    obtain ⟨q5, hq5, h⟩ := ps_bd h
    refine ps_callSI C Z (pc := 79) (As := [.int q3, .int q4]) (mX4_draw  hq5) tw_669 tw_670 tw_65 tw_671 hdX4_draw rfl rfl ⟨by decide, by decide⟩ rfl (Nat.le_of_ble_eq_true rfl) dX4_doDeed_79 rfl ?_
    refine ps_istore C (pc := 82) (lv' := [(4, .int q5), (2, .int q3), (3, .int q2), (0, .ref (z_ad z 0)), (1, .int a1)]) dX4_doDeed_82 (by decide) rfl ?_
    refine ps_iload_n C (pc := 84) dX4_doDeed_84 2 rfl ?_
    refine ps_iconst C (pc := 85) (v := 2) dX4_doDeed_85 (by decide) ?_
    refine ps_icmp_ne C (pc := 86) 104 dX4_doDeed_86 (by decide) (fun hc => ?_) (fun hc => ?_)
    · have h := ps_iff hc h
      refine ps_iload_n C (pc := 104) dX4_doDeed_104 1 rfl ?_
      obtain ⟨q6, hq6, h⟩ := ps_bd h
      refine ps_callSI C Z (pc := 105) (As := [.int q3]) (mX4_nextSeed  hq6) tw_665 tw_666 tw_65 tw_667 hdX4_nextSeed rfl rfl ⟨by decide, by decide⟩ rfl (Nat.le_of_ble_eq_true rfl) dX4_doDeed_105 rfl ?_
      refine ps_istore_n C (pc := 108) (lv' := [(2, .int q6), (4, .int q5), (3, .int q2), (0, .ref (z_ad z 0)), (1, .int a1)]) dX4_doDeed_108 (by decide) rfl ?_
      refine ps_aload_n C (pc := 109) dX4_doDeed_109 3 rfl ?_
      refine pg_0_0 C (pc := 110) tw_206 dX4_doDeed_110 ?_
      refine pg_1_3 C (pc := 113) tw_106 dX4_doDeed_113 ?_
      refine ps_iconst C (pc := 116) (v := 4) dX4_doDeed_116 (by decide) ?_
      obtain ⟨hi7, h⟩ := ps_ck_s h
      refine ps_aald C (pc := 117) 2 rfl rfl hi7 dX4_doDeed_117 ?_
      refine ps_iload C (pc := 118) dX4_doDeed_118 1 rfl ?_
      refine ps_iload_n C (pc := 120) dX4_doDeed_120 0 rfl ?_
      refine ps_bipush C (pc := 121) (v := 100) dX4_doDeed_121 (by decide) ?_
      obtain ⟨q8, hq8, h⟩ := ps_bd h
      refine ps_callSI C Z (pc := 123) (As := [.int q6, .int (100 : Int32)]) (mX4_draw  hq8) tw_669 tw_670 tw_65 tw_671 hdX4_draw rfl rfl ⟨by decide, by decide⟩ rfl (Nat.le_of_ble_eq_true rfl) dX4_doDeed_123 rfl ?_
      refine ps_iconst C (pc := 126) (v := 1) dX4_doDeed_126 (by decide) ?_
      refine ps_iadd C (pc := 127) dX4_doDeed_127 ?_
      obtain ⟨hi9, h⟩ := ps_ck_s h
      refine ps_iastL C (pc := 128) (2 + 1 + (Int32.toNatClampNeg (4 : Int32))) (ps_rw2 hi7).1 (ps_rw2 hi7).2 hi9 dX4_doDeed_128 h (fun σ10 h => ?_)
      refine ps_iload_n C (pc := 129) dX4_doDeed_129 0 rfl ?_
      obtain rfl := Option.some.inj h
      exact k _ _ dX4_doDeed_130
    · have h := ps_ift hc h
      refine ps_aload_n C (pc := 89) dX4_doDeed_89 3 rfl ?_
      refine pg_0_0 C (pc := 90) tw_206 dX4_doDeed_90 ?_
      refine pg_1_3 C (pc := 93) tw_106 dX4_doDeed_93 ?_
      refine ps_iconst C (pc := 96) (v := 4) dX4_doDeed_96 (by decide) ?_
      obtain ⟨hi11, h⟩ := ps_ck_s h
      refine ps_aald C (pc := 97) 2 rfl rfl hi11 dX4_doDeed_97 ?_
      refine ps_iload C (pc := 98) dX4_doDeed_98 0 rfl ?_
      refine ps_iconst C (pc := 100) (v := 0) dX4_doDeed_100 (by decide) ?_
      obtain ⟨hi12, h⟩ := ps_ck_s h
      refine ps_iastL C (pc := 101) (2 + 1 + (Int32.toNatClampNeg (4 : Int32))) (ps_rw2 hi11).1 (ps_rw2 hi11).2 hi12 dX4_doDeed_101 h (fun σ13 h => ?_)
      refine ps_iload_n C (pc := 102) dX4_doDeed_102 1 rfl ?_
      obtain rfl := Option.some.inj h
      exact k _ _ dX4_doDeed_103
  · have h := ps_ift hc h
    refine ps_iload_n C (pc := 20) dX4_doDeed_20 0 rfl ?_
    refine ps_aload_n C (pc := 21) dX4_doDeed_21 2 rfl ?_
    refine pg_0_0 C (pc := 22) tw_206 dX4_doDeed_22 ?_
    refine pg_1_0 C (pc := 25) tw_100 dX4_doDeed_25 ?_
    obtain ⟨q14, hq14, h⟩ := ps_bd h
    refine ps_callSI C Z (pc := 28) (As := [.int q3, .int (σ.1 1 0)]) (mX4_draw  hq14) tw_669 tw_670 tw_65 tw_671 hdX4_draw rfl rfl ⟨by decide, by decide⟩ rfl (Nat.le_of_ble_eq_true rfl) dX4_doDeed_28 rfl ?_
    refine ps_istore C (pc := 31) (lv' := [(4, .int q14), (2, .int q3), (3, .int q2), (0, .ref (z_ad z 0)), (1, .int a1)]) dX4_doDeed_31 (by decide) rfl ?_
    refine ps_iload_n C (pc := 33) dX4_doDeed_33 1 rfl ?_
    obtain ⟨q15, hq15, h⟩ := ps_bd h
    refine ps_callSI C Z (pc := 34) (As := [.int q3]) (mX4_nextSeed  hq15) tw_665 tw_666 tw_65 tw_667 hdX4_nextSeed rfl rfl ⟨by decide, by decide⟩ rfl (Nat.le_of_ble_eq_true rfl) dX4_doDeed_34 rfl ?_
    refine ps_istore_n C (pc := 37) (lv' := [(2, .int q15), (4, .int q14), (3, .int q2), (0, .ref (z_ad z 0)), (1, .int a1)]) dX4_doDeed_37 (by decide) rfl ?_
    refine ps_iload_n C (pc := 38) dX4_doDeed_38 0 rfl ?_
    refine ps_aload_n C (pc := 39) dX4_doDeed_39 3 rfl ?_
    refine pg_0_0 C (pc := 40) tw_206 dX4_doDeed_40 ?_
    refine pg_1_0 C (pc := 43) tw_100 dX4_doDeed_43 ?_
    obtain ⟨q16, hq16, h⟩ := ps_bd h
    refine ps_callSI C Z (pc := 46) (As := [.int q15, .int (σ.1 1 0)]) (mX4_draw  hq16) tw_669 tw_670 tw_65 tw_671 hdX4_draw rfl rfl ⟨by decide, by decide⟩ rfl (Nat.le_of_ble_eq_true rfl) dX4_doDeed_46 rfl ?_
    refine ps_istore C (pc := 49) (lv' := [(5, .int q16), (2, .int q15), (4, .int q14), (3, .int q2), (0, .ref (z_ad z 0)), (1, .int a1)]) dX4_doDeed_49 (by decide) rfl ?_
    refine ps_iload C (pc := 51) dX4_doDeed_51 2 rfl ?_
    refine ps_iload C (pc := 53) dX4_doDeed_53 0 rfl ?_
    refine ps_icmp_eq C (pc := 55) 69 dX4_doDeed_55 (by decide) (fun hc => ?_) (fun hc => ?_)
    · have h := ps_ift hc h
      refine ps_iload_n C (pc := 69) dX4_doDeed_69 1 rfl ?_
      obtain rfl := Option.some.inj h
      exact k _ _ dX4_doDeed_70
    · have h := ps_iff hc h
      refine ps_aload_n C (pc := 58) dX4_doDeed_58 4 rfl ?_
      refine pg_0_0 C (pc := 59) tw_206 dX4_doDeed_59 ?_
      refine ps_iload C (pc := 62) dX4_doDeed_62 2 rfl ?_
      refine ps_iload C (pc := 64) dX4_doDeed_64 0 rfl ?_
      obtain ⟨q17, hq17, h⟩ := ps_bd h
      refine ps_callVV C Z (pc := 66) (As := [.int q14, .int q16]) (k0 := 1) (mX1_turnPair  hq17) (Cn := "PartSums$Ground") rfl tw_635 tw_636 tw_637 tw_66 tw_638 hdX1_turnPair rfl rfl ⟨by decide, by decide⟩ (by decide) ps_o1 rfl rfl (Nat.le_of_ble_eq_true rfl) dX4_doDeed_66 rfl ?_
      refine ps_iload_n C (pc := 69) dX4_doDeed_69 1 rfl ?_
      obtain rfl := Option.some.inj h
      exact k _ _ dX4_doDeed_70
def rmX4_doDeed : Room := { frames := 1, cells := 0, slots := 0, locals := 22 }
theorem mX4_doDeed {l : Launch} {E : ps_E} {σ : ps_S} {a1 : Int32} {r : Int32 × ps_S}  (h : fX4_doDeed a1 σ = some r) : ps_MI l yX4_doDeed (ps_wm yX4_doDeed cX4_doDeed 6 (some .int)) rmX4_doDeed [.ref (e_ad E 0), .int a1] E σ r.1 r.2 :=
  ps_metI yX4_doDeed rmX4_doDeed 6 (own := "PartSums") r.1 (by decide +kernel) rfl (Nat.le_of_ble_eq_true rfl) rfl (fun z e1 e2 e3 e4 e5 C k => by
    subst e5
    exact tX4_doDeed C (ps_Zof e1 e3 e4)  h k)
theorem hdX4_doDeed : yX4_doDeed.cls ≠ "java/lang/invoke/MethodHandle" ∧ yX4_doDeed.cls ≠ "java/lang/invoke/VarHandle" ∧ (parseMethodDescriptor yX4_doDeed.desc).map (fun d => d.parameters.length) = some 1 := by decide +kernel
