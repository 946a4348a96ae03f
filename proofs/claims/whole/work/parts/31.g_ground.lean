def pX1_begin_S13 (z : ps_X) (k4 : Nat) (s : Int32 × ps_S) : Prop := ps_at z 7 13 [(0, .ref (z_ad z 1)), (4, .ref (z_ad z k4)), (5, .int s.1)] [] s.2
def qX1_begin_S13 (z : ps_X) (k4 : Nat) (x : (ps_S)) : Prop := match x with | y => ps_at z 7 53 [(0, .ref (z_ad z 1)), (4, .ref (z_ad z k4))] [] y
def pX1_begin_S22 (z : ps_X) (k4 : Nat) (a5 : Int32) (s : Int32 × ps_S) : Prop := ps_at z 7 22 [(0, .ref (z_ad z 1)), (4, .ref (z_ad z k4)), (5, .int a5), (6, .int s.1)] [] s.2
def qX1_begin_S22 (z : ps_X) (k4 : Nat) (a5 : Int32) (x : (ps_S)) : Prop := match x with | y => ps_at z 7 47 [(0, .ref (z_ad z 1)), (4, .ref (z_ad z k4)), (5, .int a5)] [] y
def fX1_begin_S22 (k4 : Nat) (a5 : Int32) (a6 : Int32) (σ : ps_S) : Option ((Int32 × ps_S) ⊕ ((ps_S))) :=
  (if (256 : Int32) ≤ a6 then some (.inr σ)
  else (ps_ck a5 5 ((ps_ck a6 256 ((ps_let (ps_ui σ (2 + 1 + (Int32.toNatClampNeg a5)) (Int32.toNatClampNeg a6) (0 : Int32)) fun σ5 =>
  (ps_let (a6 + (1 : Int32)) fun x6 =>
  some (.inl (x6, σ5)))))))))
set_option maxHeartbeats 4000000 in
set_option maxRecDepth 100000 in
theorem tX1_begin_S22 {z : ps_X} (C : ps_C z cX1_begin 7 "PartSums$Ground") (Z : ps_Z z 1 100) (k4 : Nat) (a5 : Int32) (hk4 : ps_kd k4 = 1) (s : Int32 × ps_S) (r : (Int32 × ps_S) ⊕ ((ps_S))) (h : fX1_begin_S22 k4 a5 s.1 s.2 = some r) (k : ps_k (pX1_begin_S22 z k4 a5) (qX1_begin_S22 z k4 a5) r) : pX1_begin_S22 z k4 a5 s := by
  obtain ⟨a6, σ⟩ := s
  unfold fX1_begin_S22 at h
  unfold pX1_begin_S22
  refine ps_iload C (pc := 22) dX1_begin_22 3 rfl ?_
  refine ps_sipush C (pc := 24) (v := 256) dX1_begin_24 (by decide) ?_
  refine ps_icmp_ge C (pc := 27) 47 dX1_begin_27 (by decide) (fun hc => ?_) (fun hc => ?_)
  · have h := ps_ift hc h
    obtain rfl := Option.some.inj h
    exact ps_sub [0, 1, 2] rfl k
  · have h := ps_iff hc h
    refine ps_aload_n C (pc := 30) dX1_begin_30 0 rfl ?_
    refine pg_1_3 C (pc := 31) tw_104 dX1_begin_31 ?_
    refine ps_iload C (pc := 34) dX1_begin_34 2 rfl ?_
    obtain ⟨hi3, h⟩ := ps_ck_s h
    refine ps_aald C (pc := 36) 2 rfl rfl hi3 dX1_begin_36 ?_
    refine ps_iload C (pc := 37) dX1_begin_37 3 rfl ?_
    refine ps_iconst C (pc := 39) (v := 0) dX1_begin_39 (by decide) ?_
    obtain ⟨hi4, h⟩ := ps_ck_s h
    refine ps_iastL C (pc := 40) (2 + 1 + (Int32.toNatClampNeg a5)) (ps_rw2 hi3).1 (ps_rw2 hi3).2 hi4 dX1_begin_40 h (fun σ5 h => ?_)
    refine ps_iincL C (pc := 41) (zz := 1) (lw := fun x6 => [(6, .int x6), (0, .ref (z_ad z 1)), (4, .ref (z_ad z k4)), (5, .int a5)]) dX1_begin_41 3 rfl (by decide) (by decide) (fun _ => rfl) h (fun x6 h => ?_)
    refine ps_goto C (pc := 44) 22 dX1_begin_44 (by decide) ?_
    obtain rfl := Option.some.inj h
    exact ps_sub [1, 2, 3, 0] rfl k
def fX1_begin_S13 (k4 : Nat) (a5 : Int32) (σ : ps_S) : Option ((Int32 × ps_S) ⊕ ((ps_S))) :=
  (if (4 : Int32) ≤ a5 then some (.inr σ)
  else ((ps_lp (fun s => fX1_begin_S22 k4 a5 s.1 s.2) 100000 ((0 : Int32), σ)).bind fun e7 =>
  (ps_let (a5 + (1 : Int32)) fun x8 =>
  some (.inl (x8, e7)))))
set_option maxHeartbeats 4000000 in
set_option maxRecDepth 100000 in
theorem tX1_begin_S13 {z : ps_X} (C : ps_C z cX1_begin 7 "PartSums$Ground") (Z : ps_Z z 1 100) (k4 : Nat) (hk4 : ps_kd k4 = 1) (s : Int32 × ps_S) (r : (Int32 × ps_S) ⊕ ((ps_S))) (h : fX1_begin_S13 k4 s.1 s.2 = some r) (k : ps_k (pX1_begin_S13 z k4) (qX1_begin_S13 z k4) r) : pX1_begin_S13 z k4 s := by
  obtain ⟨a5, σ⟩ := s
  unfold fX1_begin_S13 at h
  unfold pX1_begin_S13
  refine ps_iload C (pc := 13) dX1_begin_13 2 rfl ?_
  refine ps_iconst C (pc := 15) (v := 4) dX1_begin_15 (by decide) ?_
  refine ps_icmp_ge C (pc := 16) 53 dX1_begin_16 (by decide) (fun hc => ?_) (fun hc => ?_)
  · have h := ps_ift hc h
    obtain rfl := Option.some.inj h
    exact ps_sub [0, 1] rfl k
  · have h := ps_iff hc h
    refine ps_iconst C (pc := 19) (v := 0) dX1_begin_19 (by decide) ?_
    refine ps_istore C (pc := 20) (lv' := [(6, .int (0 : Int32)), (0, .ref (z_ad z 1)), (4, .ref (z_ad z k4)), (5, .int a5)]) dX1_begin_20 (by decide) rfl ?_
    obtain ⟨e7, he7, h⟩ := ps_bd h
    refine ps_sub [1, 2, 3, 0] rfl ?_
    refine ps_loop (P := pX1_begin_S22 z k4 a5) (K := qX1_begin_S22 z k4 a5) (fun s r h k => tX1_begin_S22 C Z k4 a5 hk4 s r h k) _ _ _ he7 ?_
    unfold qX1_begin_S22
    refine ps_iincL C (pc := 47) (zz := 1) (lw := fun x8 => [(5, .int x8), (0, .ref (z_ad z 1)), (4, .ref (z_ad z k4))]) dX1_begin_47 2 rfl (by decide) (by decide) (fun _ => rfl) h (fun x8 h => ?_)
    refine ps_goto C (pc := 50) 13 dX1_begin_50 (by decide) ?_
    obtain rfl := Option.some.inj h
    exact ps_sub [1, 2, 0] rfl k
def fX1_begin (a1 : Int32) (a2 : Int64) (k4 : Nat) (σ : ps_S) : Option (ps_S) :=
  (ps_let (ps_ui σ 1 0 a1) fun σ1 =>
  (ps_let (ps_ul σ1 1 1 a2) fun σ2 =>
  ((ps_lp (fun s => fX1_begin_S13 k4 s.1 s.2) 100000 ((0 : Int32), σ2)).bind fun e9 =>
  (ps_ck (4 : Int32) 5 ((ps_cc (0 : Int32) (0 : Int32) (256 : Int32) (ps_ln k4) 256 (ps_let (ps_ur e9 (2 + 1 + (Int32.toNatClampNeg (4 : Int32))) (va_cpy (e9.1 k4) (e9.1 (2 + 1 + (Int32.toNatClampNeg (4 : Int32)))) (Int32.toNatClampNeg (0 : Int32)) (Int32.toNatClampNeg (0 : Int32)) (Int32.toNatClampNeg (256 : Int32)))) fun σ12 =>
  some σ12)))))))
set_option maxHeartbeats 4000000 in
set_option maxRecDepth 100000 in
theorem tX1_begin {z : ps_X} (C : ps_C z cX1_begin 7 "PartSums$Ground") (Z : ps_Z z 1 100) {a1 : Int32} {a2 : Int64} {k4 : Nat} {σ : ps_S} (hk4 : ps_kd k4 = 1) {r : ps_S} (h : fX1_begin a1 a2 k4 σ = some r) (k : ps_KV z 7 cX1_begin r) : ps_at z 7 0 [(0, .ref (z_ad z 1)), (1, .int a1), (2, .long a2), (4, .ref (z_ad z k4))] [] σ := by
  unfold fX1_begin at h
  refine ps_aload_n C (pc := 0) dX1_begin_0 0 rfl ?_
  refine ps_iload_n C (pc := 1) dX1_begin_1 1 rfl ?_
  refine pp_1_0 C (pc := 2) tw_99 dX1_begin_2 h (fun σ1 h => ?_)
  refine ps_aload_n C (pc := 5) dX1_begin_5 0 rfl ?_
  refine ps_lload_n C (pc := 6) dX1_begin_6 2 rfl ?_
  refine pp_1_1 C (pc := 7) tw_101 dX1_begin_7 h (fun σ2 h => ?_)
  refine ps_iconst C (pc := 10) (v := 0) dX1_begin_10 (by decide) ?_
  refine ps_istore C (pc := 11) (lv' := [(5, .int (0 : Int32)), (0, .ref (z_ad z 1)), (1, .int a1), (2, .long a2), (4, .ref (z_ad z k4))]) dX1_begin_11 (by decide) rfl ?_
  obtain ⟨e9, he9, h⟩ := ps_bd h
  refine ps_sub [1, 4, 0] rfl ?_
  refine ps_loop (P := pX1_begin_S13 z k4) (K := qX1_begin_S13 z k4) (fun s r h k => tX1_begin_S13 C Z k4 hk4 s r h k) _ _ _ he9 ?_
  unfold qX1_begin_S13
  refine ps_aload C (pc := 53) dX1_begin_53 1 rfl ?_
  refine ps_iconst C (pc := 55) (v := 0) dX1_begin_55 (by decide) ?_
  refine ps_aload_n C (pc := 56) dX1_begin_56 0 rfl ?_
  refine pg_1_3 C (pc := 57) tw_104 dX1_begin_57 ?_
  refine ps_iconst C (pc := 60) (v := 4) dX1_begin_60 (by decide) ?_
  obtain ⟨hi10, h⟩ := ps_ck_s h
  refine ps_aald C (pc := 61) 2 rfl rfl hi10 dX1_begin_61 ?_
  refine ps_iconst C (pc := 62) (v := 0) dX1_begin_62 (by decide) ?_
  refine ps_sipush C (pc := 63) (v := 256) dX1_begin_63 (by decide) ?_
  obtain ⟨hi11, h⟩ := ps_cc_s h
  refine ps_copyZ C Z (pc := 66) k4 (2 + 1 + (Int32.toNatClampNeg (4 : Int32))) hk4 (ps_rw2 hi10).1 rfl (ps_rw2 hi10).2 hi11 tw_371 tw_373 tw_372 tw_77 (by decide) (Nat.le_of_ble_eq_true rfl) dX1_begin_66 h (fun σ12 h => ?_)
  obtain rfl := Option.some.inj h
  exact k _ _ dX1_begin_69
def rmX1_begin : Room := { frames := 1, cells := 0, slots := 0, locals := 100 }
theorem mX1_begin {l : Launch} {E : ps_E} {σ : ps_S} {a1 : Int32} {a2 : Int64} {k4 : Nat} {r : ps_S} (hk4 : ps_kd k4 = 1) (h : fX1_begin a1 a2 k4 σ = some r) : ps_MV l yX1_begin (ps_wm yX1_begin cX1_begin 7 none) rmX1_begin [.ref (e_ad E 1), .int a1, .long a2, .ref (e_ad E k4)] E σ r :=
  ps_metV yX1_begin rmX1_begin 7 (own := "PartSums$Ground")  (by decide +kernel) rfl (Nat.le_of_ble_eq_true rfl) rfl (fun z e1 e2 e3 e4 e5 C k => by
    subst e5
    exact tX1_begin C (ps_Zof e1 e3 e4) hk4 h k)
theorem hdX1_begin : yX1_begin.cls ≠ "java/lang/invoke/MethodHandle" ∧ yX1_begin.cls ≠ "java/lang/invoke/VarHandle" ∧ (parseMethodDescriptor yX1_begin.desc).map (fun d => d.parameters.length) = some 3 := by decide +kernel
def fX1_countSets (σ : ps_S) : Option (Int32) :=
  (if (σ.1 1 0) = 0 then some (0 : Int32)
  else some ((1 : Int32) <<< ((σ.1 1 0) &&& 31)))
set_option maxHeartbeats 4000000 in
set_option maxRecDepth 100000 in
theorem tX1_countSets {z : ps_X} (C : ps_C z cX1_countSets 1 "PartSums$Ground") (Z : ps_Z z 0 0) {σ : ps_S}  {r : Int32} (h : fX1_countSets σ = some r) (k : ps_KI z 1 cX1_countSets r σ) : ps_at z 1 0 [(0, .ref (z_ad z 1))] [] σ := by
  unfold fX1_countSets at h
  refine ps_aload_n C (pc := 0) dX1_countSets_0 0 rfl ?_
  refine pg_1_0 C (pc := 1) tw_99 dX1_countSets_1 ?_
  refine ps_if_ne C (pc := 4) 11 dX1_countSets_4 (by decide) (fun hc => ?_) (fun hc => ?_)
  · have h := ps_iff hc h
    refine ps_iconst C (pc := 11) (v := 1) dX1_countSets_11 (by decide) ?_
    refine ps_aload_n C (pc := 12) dX1_countSets_12 0 rfl ?_
    refine pg_1_0 C (pc := 13) tw_99 dX1_countSets_13 ?_
    refine ps_ishl C (pc := 16) dX1_countSets_16 ?_
    obtain rfl := Option.some.inj h
    exact k _ _ dX1_countSets_17
  · have h := ps_ift hc h
    refine ps_iconst C (pc := 7) (v := 0) dX1_countSets_7 (by decide) ?_
    refine ps_goto C (pc := 8) 17 dX1_countSets_8 (by decide) ?_
    obtain rfl := Option.some.inj h
    exact k _ _ dX1_countSets_17
def rmX1_countSets : Room := { frames := 0, cells := 0, slots := 0, locals := 0 }
theorem mX1_countSets {l : Launch} {E : ps_E} {σ : ps_S}  {r : Int32}  (h : fX1_countSets σ = some r) : ps_MI l yX1_countSets (ps_wm yX1_countSets cX1_countSets 1 (some .int)) rmX1_countSets [.ref (e_ad E 1)] E σ r σ :=
  ps_metI yX1_countSets rmX1_countSets 1 (own := "PartSums$Ground") r (by decide +kernel) rfl (Nat.le_of_ble_eq_true rfl) rfl (fun z e1 e2 e3 e4 e5 C k => by
    subst e5
    exact tX1_countSets C (ps_Zof e1 e3 e4)  h k)
theorem hdX1_countSets : yX1_countSets.cls ≠ "java/lang/invoke/MethodHandle" ∧ yX1_countSets.cls ≠ "java/lang/invoke/VarHandle" ∧ (parseMethodDescriptor yX1_countSets.desc).map (fun d => d.parameters.length) = some 0 := by decide +kernel
def fX1_allThings (σ : ps_S) : Option (Int32) :=
  some (((1 : Int32) <<< ((σ.1 1 0) &&& 31)) - (1 : Int32))
set_option maxHeartbeats 4000000 in
set_option maxRecDepth 100000 in
theorem tX1_allThings {z : ps_X} (C : ps_C z cX1_allThings 1 "PartSums$Ground") (Z : ps_Z z 0 0) {σ : ps_S}  {r : Int32} (h : fX1_allThings σ = some r) (k : ps_KI z 1 cX1_allThings r σ) : ps_at z 1 0 [(0, .ref (z_ad z 1))] [] σ := by
  unfold fX1_allThings at h
  refine ps_iconst C (pc := 0) (v := 1) dX1_allThings_0 (by decide) ?_
  refine ps_aload_n C (pc := 1) dX1_allThings_1 0 rfl ?_
  refine pg_1_0 C (pc := 2) tw_99 dX1_allThings_2 ?_
  refine ps_ishl C (pc := 5) dX1_allThings_5 ?_
  refine ps_iconst C (pc := 6) (v := 1) dX1_allThings_6 (by decide) ?_
  refine ps_isub C (pc := 7) dX1_allThings_7 ?_
  obtain rfl := Option.some.inj h
  exact k _ _ dX1_allThings_8
def rmX1_allThings : Room := { frames := 0, cells := 0, slots := 0, locals := 0 }
theorem mX1_allThings {l : Launch} {E : ps_E} {σ : ps_S}  {r : Int32}  (h : fX1_allThings σ = some r) : ps_MI l yX1_allThings (ps_wm yX1_allThings cX1_allThings 1 (some .int)) rmX1_allThings [.ref (e_ad E 1)] E σ r σ :=
  ps_metI yX1_allThings rmX1_allThings 1 (own := "PartSums$Ground") r (by decide +kernel) rfl (Nat.le_of_ble_eq_true rfl) rfl (fun z e1 e2 e3 e4 e5 C k => by
    subst e5
    exact tX1_allThings C (ps_Zof e1 e3 e4)  h k)
theorem hdX1_allThings : yX1_allThings.cls ≠ "java/lang/invoke/MethodHandle" ∧ yX1_allThings.cls ≠ "java/lang/invoke/VarHandle" ∧ (parseMethodDescriptor yX1_allThings.desc).map (fun d => d.parameters.length) = some 0 := by decide +kernel
def fX1_hasThing (a1 : Int32) (σ : ps_S) : Option (Int32) :=
  (if a1 < 0 then some (0 : Int32)
  else (if (σ.1 1 0) ≤ a1 then some (0 : Int32)
  else some (1 : Int32)))
set_option maxHeartbeats 4000000 in
set_option maxRecDepth 100000 in
theorem tX1_hasThing {z : ps_X} (C : ps_C z cX1_hasThing 2 "PartSums$Ground") (Z : ps_Z z 0 0) {a1 : Int32} {σ : ps_S}  {r : Int32} (h : fX1_hasThing a1 σ = some r) (k : ps_KZ z 2 cX1_hasThing r σ) : ps_at z 2 0 [(0, .ref (z_ad z 1)), (1, .int a1)] [] σ := by
  unfold fX1_hasThing at h
  refine ps_iload_n C (pc := 0) dX1_hasThing_0 1 rfl ?_
  refine ps_if_lt C (pc := 1) 16 dX1_hasThing_1 (by decide) (fun hc => ?_) (fun hc => ?_)
  · have h := ps_ift hc h
    refine ps_iconst C (pc := 16) (v := 0) dX1_hasThing_16 (by decide) ?_
    obtain rfl := Option.some.inj h
    exact k _ _ (Or.inl rfl) dX1_hasThing_17
  · have h := ps_iff hc h
    refine ps_iload_n C (pc := 4) dX1_hasThing_4 1 rfl ?_
    refine ps_aload_n C (pc := 5) dX1_hasThing_5 0 rfl ?_
    refine pg_1_0 C (pc := 6) tw_99 dX1_hasThing_6 ?_
    refine ps_icmp_ge C (pc := 9) 16 dX1_hasThing_9 (by decide) (fun hc => ?_) (fun hc => ?_)
    · have h := ps_ift hc h
      refine ps_iconst C (pc := 16) (v := 0) dX1_hasThing_16 (by decide) ?_
      obtain rfl := Option.some.inj h
      exact k _ _ (Or.inl rfl) dX1_hasThing_17
    · have h := ps_iff hc h
      refine ps_iconst C (pc := 12) (v := 1) dX1_hasThing_12 (by decide) ?_
      refine ps_goto C (pc := 13) 17 dX1_hasThing_13 (by decide) ?_
      obtain rfl := Option.some.inj h
      exact k _ _ (Or.inr rfl) dX1_hasThing_17
def rmX1_hasThing : Room := { frames := 0, cells := 0, slots := 0, locals := 0 }
theorem mX1_hasThing {l : Launch} {E : ps_E} {σ : ps_S} {a1 : Int32} {r : Int32}  (h : fX1_hasThing a1 σ = some r) : ps_MI l yX1_hasThing (ps_wm yX1_hasThing cX1_hasThing 2 (some .boolean)) rmX1_hasThing [.ref (e_ad E 1), .int a1] E σ r σ :=
  ps_metZ yX1_hasThing rmX1_hasThing 2 (own := "PartSums$Ground") r (by decide +kernel) rfl (Nat.le_of_ble_eq_true rfl) rfl (fun z e1 e2 e3 e4 e5 C k => by
    subst e5
    exact tX1_hasThing C (ps_Zof e1 e3 e4)  h k)
theorem hdX1_hasThing : yX1_hasThing.cls ≠ "java/lang/invoke/MethodHandle" ∧ yX1_hasThing.cls ≠ "java/lang/invoke/VarHandle" ∧ (parseMethodDescriptor yX1_hasThing.desc).map (fun d => d.parameters.length) = some 1 := by decide +kernel
def fX1_hasSet (a1 : Int32) (σ : ps_S) : Option (Int32) :=
  (if a1 < 0 then some (0 : Int32)
  else ((fX1_countSets σ).bind fun q1 =>
  (if q1 ≤ a1 then some (0 : Int32)
  else some (1 : Int32))))
set_option maxHeartbeats 4000000 in
set_option maxRecDepth 100000 in
theorem tX1_hasSet {z : ps_X} (C : ps_C z cX1_hasSet 2 "PartSums$Ground") (Z : ps_Z z 1 20) {a1 : Int32} {σ : ps_S}  {r : Int32} (h : fX1_hasSet a1 σ = some r) (k : ps_KZ z 2 cX1_hasSet r σ) : ps_at z 2 0 [(0, .ref (z_ad z 1)), (1, .int a1)] [] σ := by
  unfold fX1_hasSet at h
  refine ps_iload_n C (pc := 0) dX1_hasSet_0 1 rfl ?_
  refine ps_if_lt C (pc := 1) 16 dX1_hasSet_1 (by decide) (fun hc => ?_) (fun hc => ?_)
  · have h := ps_ift hc h
    refine ps_iconst C (pc := 16) (v := 0) dX1_hasSet_16 (by decide) ?_
    obtain rfl := Option.some.inj h
    exact k _ _ (Or.inl rfl) dX1_hasSet_17
  · have h := ps_iff hc h
    refine ps_iload_n C (pc := 4) dX1_hasSet_4 1 rfl ?_
    refine ps_aload_n C (pc := 5) dX1_hasSet_5 0 rfl ?_
    obtain ⟨q1, hq1, h⟩ := ps_bd h
    refine ps_callVI C Z (pc := 6) (As := []) (k0 := 1) (mX1_countSets  hq1) (Cn := "PartSums$Ground") rfl tw_408 tw_409 tw_410 tw_66 tw_411 hdX1_countSets rfl rfl ⟨by decide, by decide⟩ (by decide) ps_o1 rfl rfl (Nat.le_of_ble_eq_true rfl) dX1_hasSet_6 rfl ?_
    refine ps_icmp_ge C (pc := 9) 16 dX1_hasSet_9 (by decide) (fun hc => ?_) (fun hc => ?_)
    · have h := ps_ift hc h
      refine ps_iconst C (pc := 16) (v := 0) dX1_hasSet_16 (by decide) ?_
      obtain rfl := Option.some.inj h
      exact k _ _ (Or.inl rfl) dX1_hasSet_17
    · have h := ps_iff hc h
      refine ps_iconst C (pc := 12) (v := 1) dX1_hasSet_12 (by decide) ?_
      refine ps_goto C (pc := 13) 17 dX1_hasSet_13 (by decide) ?_
      obtain rfl := Option.some.inj h
      exact k _ _ (Or.inr rfl) dX1_hasSet_17
def rmX1_hasSet : Room := { frames := 1, cells := 0, slots := 0, locals := 20 }
theorem mX1_hasSet {l : Launch} {E : ps_E} {σ : ps_S} {a1 : Int32} {r : Int32}  (h : fX1_hasSet a1 σ = some r) : ps_MI l yX1_hasSet (ps_wm yX1_hasSet cX1_hasSet 2 (some .boolean)) rmX1_hasSet [.ref (e_ad E 1), .int a1] E σ r σ :=
  ps_metZ yX1_hasSet rmX1_hasSet 2 (own := "PartSums$Ground") r (by decide +kernel) rfl (Nat.le_of_ble_eq_true rfl) rfl (fun z e1 e2 e3 e4 e5 C k => by
    subst e5
    exact tX1_hasSet C (ps_Zof e1 e3 e4)  h k)
theorem hdX1_hasSet : yX1_hasSet.cls ≠ "java/lang/invoke/MethodHandle" ∧ yX1_hasSet.cls ≠ "java/lang/invoke/VarHandle" ∧ (parseMethodDescriptor yX1_hasSet.desc).map (fun d => d.parameters.length) = some 1 := by decide +kernel
def fX1_hasRow (a1 : Int32) (σ : ps_S) : Option (Int32) :=
  (if a1 < 0 then some (0 : Int32)
  else (if (4 : Int32) ≤ a1 then some (0 : Int32)
  else (if (σ.1 1 0) ≤ 0 then some (0 : Int32)
  else some (1 : Int32))))
set_option maxHeartbeats 4000000 in
set_option maxRecDepth 100000 in
theorem tX1_hasRow {z : ps_X} (C : ps_C z cX1_hasRow 2 "PartSums$Ground") (Z : ps_Z z 0 0) {a1 : Int32} {σ : ps_S}  {r : Int32} (h : fX1_hasRow a1 σ = some r) (k : ps_KZ z 2 cX1_hasRow r σ) : ps_at z 2 0 [(0, .ref (z_ad z 1)), (1, .int a1)] [] σ := by
  unfold fX1_hasRow at h
  refine ps_iload_n C (pc := 0) dX1_hasRow_0 1 rfl ?_
  refine ps_if_lt C (pc := 1) 20 dX1_hasRow_1 (by decide) (fun hc => ?_) (fun hc => ?_)
  · have h := ps_ift hc h
    refine ps_iconst C (pc := 20) (v := 0) dX1_hasRow_20 (by decide) ?_
    obtain rfl := Option.some.inj h
    exact k _ _ (Or.inl rfl) dX1_hasRow_21
  · have h := ps_iff hc h
    refine ps_iload_n C (pc := 4) dX1_hasRow_4 1 rfl ?_
    refine ps_iconst C (pc := 5) (v := 4) dX1_hasRow_5 (by decide) ?_
    refine ps_icmp_ge C (pc := 6) 20 dX1_hasRow_6 (by decide) (fun hc => ?_) (fun hc => ?_)
    · have h := ps_ift hc h
      refine ps_iconst C (pc := 20) (v := 0) dX1_hasRow_20 (by decide) ?_
      obtain rfl := Option.some.inj h
      exact k _ _ (Or.inl rfl) dX1_hasRow_21
    · have h := ps_iff hc h
      refine ps_aload_n C (pc := 9) dX1_hasRow_9 0 rfl ?_
      refine pg_1_0 C (pc := 10) tw_99 dX1_hasRow_10 ?_
      refine ps_if_le C (pc := 13) 20 dX1_hasRow_13 (by decide) (fun hc => ?_) (fun hc => ?_)
      · have h := ps_ift hc h
        refine ps_iconst C (pc := 20) (v := 0) dX1_hasRow_20 (by decide) ?_
        obtain rfl := Option.some.inj h
        exact k _ _ (Or.inl rfl) dX1_hasRow_21
      · have h := ps_iff hc h
        refine ps_iconst C (pc := 16) (v := 1) dX1_hasRow_16 (by decide) ?_
        refine ps_goto C (pc := 17) 21 dX1_hasRow_17 (by decide) ?_
        obtain rfl := Option.some.inj h
        exact k _ _ (Or.inr rfl) dX1_hasRow_21
def rmX1_hasRow : Room := { frames := 0, cells := 0, slots := 0, locals := 0 }
theorem mX1_hasRow {l : Launch} {E : ps_E} {σ : ps_S} {a1 : Int32} {r : Int32}  (h : fX1_hasRow a1 σ = some r) : ps_MI l yX1_hasRow (ps_wm yX1_hasRow cX1_hasRow 2 (some .boolean)) rmX1_hasRow [.ref (e_ad E 1), .int a1] E σ r σ :=
  ps_metZ yX1_hasRow rmX1_hasRow 2 (own := "PartSums$Ground") r (by decide +kernel) rfl (Nat.le_of_ble_eq_true rfl) rfl (fun z e1 e2 e3 e4 e5 C k => by
    subst e5
    exact tX1_hasRow C (ps_Zof e1 e3 e4)  h k)
theorem hdX1_hasRow : yX1_hasRow.cls ≠ "java/lang/invoke/MethodHandle" ∧ yX1_hasRow.cls ≠ "java/lang/invoke/VarHandle" ∧ (parseMethodDescriptor yX1_hasRow.desc).map (fun d => d.parameters.length) = some 1 := by decide +kernel
def fX1_mates (a1 : Int32) (σ : ps_S) : Option (Int32) :=
  some ((Int64.toInt32 (((σ.2 1 1).toUInt64 >>> ((Int32.toInt64 (a1 * (8 : Int32))).toUInt64 &&& Int64.toUInt64 63)).toInt64)) &&& (255 : Int32))
set_option maxHeartbeats 4000000 in
set_option maxRecDepth 100000 in
theorem tX1_mates {z : ps_X} (C : ps_C z cX1_mates 2 "PartSums$Ground") (Z : ps_Z z 0 0) {a1 : Int32} {σ : ps_S}  {r : Int32} (h : fX1_mates a1 σ = some r) (k : ps_KI z 2 cX1_mates r σ) : ps_at z 2 0 [(0, .ref (z_ad z 1)), (1, .int a1)] [] σ := by
  unfold fX1_mates at h
  refine ps_aload_n C (pc := 0) dX1_mates_0 0 rfl ?_
  refine pg_1_1 C (pc := 1) tw_101 dX1_mates_1 ?_
  refine ps_iload_n C (pc := 4) dX1_mates_4 1 rfl ?_
  refine ps_bipush C (pc := 5) (v := 8) dX1_mates_5 (by decide) ?_
  refine ps_imul C (pc := 7) dX1_mates_7 ?_
  refine ps_lushr C (pc := 8) dX1_mates_8 ?_
  refine ps_l2i C (pc := 9) dX1_mates_9 ?_
  refine ps_sipush C (pc := 10) (v := 255) dX1_mates_10 (by decide) ?_
  refine ps_iand C (pc := 13) dX1_mates_13 ?_
  obtain rfl := Option.some.inj h
  exact k _ _ dX1_mates_14
def rmX1_mates : Room := { frames := 0, cells := 0, slots := 0, locals := 0 }
theorem mX1_mates {l : Launch} {E : ps_E} {σ : ps_S} {a1 : Int32} {r : Int32}  (h : fX1_mates a1 σ = some r) : ps_MI l yX1_mates (ps_wm yX1_mates cX1_mates 2 (some .int)) rmX1_mates [.ref (e_ad E 1), .int a1] E σ r σ :=
  ps_metI yX1_mates rmX1_mates 2 (own := "PartSums$Ground") r (by decide +kernel) rfl (Nat.le_of_ble_eq_true rfl) rfl (fun z e1 e2 e3 e4 e5 C k => by
    subst e5
    exact tX1_mates C (ps_Zof e1 e3 e4)  h k)
theorem hdX1_mates : yX1_mates.cls ≠ "java/lang/invoke/MethodHandle" ∧ yX1_mates.cls ≠ "java/lang/invoke/VarHandle" ∧ (parseMethodDescriptor yX1_mates.desc).map (fun d => d.parameters.length) = some 1 := by decide +kernel
def fX1_areMates (a1 : Int32) (a2 : Int32) (σ : ps_S) : Option (Int32) :=
  ((fX1_mates a1 σ).bind fun q1 =>
  (if ((q1 >>> (a2 &&& 31)) &&& (1 : Int32)) = (1 : Int32) then some (1 : Int32)
  else some (0 : Int32)))
set_option maxHeartbeats 4000000 in
set_option maxRecDepth 100000 in
theorem tX1_areMates {z : ps_X} (C : ps_C z cX1_areMates 3 "PartSums$Ground") (Z : ps_Z z 1 21) {a1 : Int32} {a2 : Int32} {σ : ps_S}  {r : Int32} (h : fX1_areMates a1 a2 σ = some r) (k : ps_KZ z 3 cX1_areMates r σ) : ps_at z 3 0 [(0, .ref (z_ad z 1)), (1, .int a1), (2, .int a2)] [] σ := by
  unfold fX1_areMates at h
  refine ps_aload_n C (pc := 0) dX1_areMates_0 0 rfl ?_
  refine ps_iload_n C (pc := 1) dX1_areMates_1 1 rfl ?_
  obtain ⟨q1, hq1, h⟩ := ps_bd h
  refine ps_callVI C Z (pc := 2) (As := [.int a1]) (k0 := 1) (mX1_mates  hq1) (Cn := "PartSums$Ground") rfl tw_634 tw_421 tw_422 tw_66 tw_423 hdX1_mates rfl rfl ⟨by decide, by decide⟩ (by decide) ps_o1 rfl rfl (Nat.le_of_ble_eq_true rfl) dX1_areMates_2 rfl ?_
  refine ps_iload_n C (pc := 5) dX1_areMates_5 2 rfl ?_
  refine ps_ishr C (pc := 6) dX1_areMates_6 ?_
  refine ps_iconst C (pc := 7) (v := 1) dX1_areMates_7 (by decide) ?_
  refine ps_iand C (pc := 8) dX1_areMates_8 ?_
  refine ps_iconst C (pc := 9) (v := 1) dX1_areMates_9 (by decide) ?_
  refine ps_icmp_ne C (pc := 10) 17 dX1_areMates_10 (by decide) (fun hc => ?_) (fun hc => ?_)
  · have h := ps_iff hc h
    refine ps_iconst C (pc := 17) (v := 0) dX1_areMates_17 (by decide) ?_
    obtain rfl := Option.some.inj h
    exact k _ _ (Or.inl rfl) dX1_areMates_18
  · have h := ps_ift hc h
    refine ps_iconst C (pc := 13) (v := 1) dX1_areMates_13 (by decide) ?_
    refine ps_goto C (pc := 14) 18 dX1_areMates_14 (by decide) ?_
    obtain rfl := Option.some.inj h
    exact k _ _ (Or.inr rfl) dX1_areMates_18
def rmX1_areMates : Room := { frames := 1, cells := 0, slots := 0, locals := 21 }
theorem mX1_areMates {l : Launch} {E : ps_E} {σ : ps_S} {a1 : Int32} {a2 : Int32} {r : Int32}  (h : fX1_areMates a1 a2 σ = some r) : ps_MI l yX1_areMates (ps_wm yX1_areMates cX1_areMates 3 (some .boolean)) rmX1_areMates [.ref (e_ad E 1), .int a1, .int a2] E σ r σ :=
  ps_metZ yX1_areMates rmX1_areMates 3 (own := "PartSums$Ground") r (by decide +kernel) rfl (Nat.le_of_ble_eq_true rfl) rfl (fun z e1 e2 e3 e4 e5 C k => by
    subst e5
    exact tX1_areMates C (ps_Zof e1 e3 e4)  h k)
theorem hdX1_areMates : yX1_areMates.cls ≠ "java/lang/invoke/MethodHandle" ∧ yX1_areMates.cls ≠ "java/lang/invoke/VarHandle" ∧ (parseMethodDescriptor yX1_areMates.desc).map (fun d => d.parameters.length) = some 2 := by decide +kernel
def fX1_turnPair (a1 : Int32) (a2 : Int32) (σ : ps_S) : Option (ps_S) :=
  (ps_let (ps_ul σ 1 1 ((σ.2 1 1) ^^^ (((1 : Int64) <<< (Int32.toInt64 ((a1 * (8 : Int32)) + a2) &&& 63)) ||| ((1 : Int64) <<< (Int32.toInt64 ((a2 * (8 : Int32)) + a1) &&& 63))))) fun σ1 =>
  some σ1)
set_option maxHeartbeats 4000000 in
set_option maxRecDepth 100000 in
theorem tX1_turnPair {z : ps_X} (C : ps_C z cX1_turnPair 3 "PartSums$Ground") (Z : ps_Z z 0 0) {a1 : Int32} {a2 : Int32} {σ : ps_S}  {r : ps_S} (h : fX1_turnPair a1 a2 σ = some r) (k : ps_KV z 3 cX1_turnPair r) : ps_at z 3 0 [(0, .ref (z_ad z 1)), (1, .int a1), (2, .int a2)] [] σ := by
  unfold fX1_turnPair at h
  refine ps_aload_n C (pc := 0) dX1_turnPair_0 0 rfl ?_
  refine ps_dup C (pc := 1) dX1_turnPair_1 rfl ?_
  refine pg_1_1 C (pc := 2) tw_101 dX1_turnPair_2 ?_
  refine ps_lconst C (pc := 5) (v := 1) dX1_turnPair_5 (by decide) ?_
  refine ps_iload_n C (pc := 6) dX1_turnPair_6 1 rfl ?_
  refine ps_bipush C (pc := 7) (v := 8) dX1_turnPair_7 (by decide) ?_
  refine ps_imul C (pc := 9) dX1_turnPair_9 ?_
  refine ps_iload_n C (pc := 10) dX1_turnPair_10 2 rfl ?_
  refine ps_iadd C (pc := 11) dX1_turnPair_11 ?_
  refine ps_lshl C (pc := 12) dX1_turnPair_12 ?_
  refine ps_lconst C (pc := 13) (v := 1) dX1_turnPair_13 (by decide) ?_
  refine ps_iload_n C (pc := 14) dX1_turnPair_14 2 rfl ?_
  refine ps_bipush C (pc := 15) (v := 8) dX1_turnPair_15 (by decide) ?_
  refine ps_imul C (pc := 17) dX1_turnPair_17 ?_
  refine ps_iload_n C (pc := 18) dX1_turnPair_18 1 rfl ?_
  refine ps_iadd C (pc := 19) dX1_turnPair_19 ?_
  refine ps_lshl C (pc := 20) dX1_turnPair_20 ?_
  refine ps_lor C (pc := 21) dX1_turnPair_21 ?_
  refine ps_lxor C (pc := 22) dX1_turnPair_22 ?_
  refine pp_1_1 C (pc := 23) tw_101 dX1_turnPair_23 h (fun σ1 h => ?_)
  obtain rfl := Option.some.inj h
  exact k _ _ dX1_turnPair_26
def rmX1_turnPair : Room := { frames := 0, cells := 0, slots := 0, locals := 0 }
theorem mX1_turnPair {l : Launch} {E : ps_E} {σ : ps_S} {a1 : Int32} {a2 : Int32} {r : ps_S}  (h : fX1_turnPair a1 a2 σ = some r) : ps_MV l yX1_turnPair (ps_wm yX1_turnPair cX1_turnPair 3 none) rmX1_turnPair [.ref (e_ad E 1), .int a1, .int a2] E σ r :=
  ps_metV yX1_turnPair rmX1_turnPair 3 (own := "PartSums$Ground")  (by decide +kernel) rfl (Nat.le_of_ble_eq_true rfl) rfl (fun z e1 e2 e3 e4 e5 C k => by
    subst e5
    exact tX1_turnPair C (ps_Zof e1 e3 e4)  h k)
theorem hdX1_turnPair : yX1_turnPair.cls ≠ "java/lang/invoke/MethodHandle" ∧ yX1_turnPair.cls ≠ "java/lang/invoke/VarHandle" ∧ (parseMethodDescriptor yX1_turnPair.desc).map (fun d => d.parameters.length) = some 2 := by decide +kernel
def fX1_countPairs (σ : ps_S) : Option (Int32) :=
  ((fJ13_bitCount_95d88 (σ.2 1 1)).bind fun q1 =>
  some (q1 >>> ((1 : Int32) &&& 31)))
set_option maxHeartbeats 4000000 in
set_option maxRecDepth 100000 in
theorem tX1_countPairs {z : ps_X} (C : ps_C z cX1_countPairs 1 "PartSums$Ground") (Z : ps_Z z 1 21) {σ : ps_S}  {r : Int32} (h : fX1_countPairs σ = some r) (k : ps_KI z 1 cX1_countPairs r σ) : ps_at z 1 0 [(0, .ref (z_ad z 1))] [] σ := by
  unfold fX1_countPairs at h
  refine ps_aload_n C (pc := 0) dX1_countPairs_0 0 rfl ?_
  refine pg_1_1 C (pc := 1) tw_101 dX1_countPairs_1 ?_
  obtain ⟨q1, hq1, h⟩ := ps_bd h
  refine ps_callSI C Z (pc := 4) (As := [.long (σ.2 1 1)]) (mJ13_bitCount_95d88  hq1) tw_394 tw_395 tw_78 tw_396 hdJ13_bitCount_95d88 rfl rfl ⟨by decide, by decide⟩ rfl (Nat.le_of_ble_eq_true rfl) dX1_countPairs_4 rfl ?_
  refine ps_iconst C (pc := 7) (v := 1) dX1_countPairs_7 (by decide) ?_
  refine ps_ishr C (pc := 8) dX1_countPairs_8 ?_
  obtain rfl := Option.some.inj h
  exact k _ _ dX1_countPairs_9
def rmX1_countPairs : Room := { frames := 1, cells := 0, slots := 0, locals := 21 }
theorem mX1_countPairs {l : Launch} {E : ps_E} {σ : ps_S}  {r : Int32}  (h : fX1_countPairs σ = some r) : ps_MI l yX1_countPairs (ps_wm yX1_countPairs cX1_countPairs 1 (some .int)) rmX1_countPairs [.ref (e_ad E 1)] E σ r σ :=
  ps_metI yX1_countPairs rmX1_countPairs 1 (own := "PartSums$Ground") r (by decide +kernel) rfl (Nat.le_of_ble_eq_true rfl) rfl (fun z e1 e2 e3 e4 e5 C k => by
    subst e5
    exact tX1_countPairs C (ps_Zof e1 e3 e4)  h k)
theorem hdX1_countPairs : yX1_countPairs.cls ≠ "java/lang/invoke/MethodHandle" ∧ yX1_countPairs.cls ≠ "java/lang/invoke/VarHandle" ∧ (parseMethodDescriptor yX1_countPairs.desc).map (fun d => d.parameters.length) = some 0 := by decide +kernel
def pX1_countTold_S4 (z : ps_X)  (σ : ps_S) (s : Int32 × Int32) : Prop := ps_at z 3 4 [(0, .ref (z_ad z 1)), (1, .int s.1), (2, .int s.2)] [] σ
def qX1_countTold_S4 (z : ps_X)  (σ : ps_S) (x : (Int32)) : Prop := match x with | y => ps_at z 3 36 [(1, .int y)] [] σ
def fX1_countTold_J28 (a2 : Int32) (u0 : Int32) (u1 : Int32) (σ : ps_S) : Option ((Int32 × Int32) ⊕ ((Int32))) :=
  (ps_let (u1 + u0) fun x3 =>
  (ps_let (a2 + (1 : Int32)) fun x4 =>
  some (.inl (x3, x4))))
set_option maxHeartbeats 4000000 in
set_option maxRecDepth 100000 in
theorem tX1_countTold_J28 {z : ps_X} (C : ps_C z cX1_countTold 3 "PartSums$Ground") (Z : ps_Z z 0 0) {a2 : Int32} {u0 : Int32} {u1 : Int32} {σ : ps_S}  {r : (Int32 × Int32) ⊕ ((Int32))} (h : fX1_countTold_J28 a2 u0 u1 σ = some r) (k : ps_k (pX1_countTold_S4 z σ) (qX1_countTold_S4 z σ) r) : ps_at z 3 28 [(0, .ref (z_ad z 1)), (2, .int a2)] [.int u0, .int u1] σ := by
  unfold fX1_countTold_J28 at h
  refine ps_iadd C (pc := 28) dX1_countTold_28 ?_
  refine ps_istoreL_n C (pc := 29) (lw := fun x3 => [(1, .int x3), (0, .ref (z_ad z 1)), (2, .int a2)]) dX1_countTold_29 (by decide) (fun _ => rfl) h (fun x3 h => ?_)
  refine ps_iincL C (pc := 30) (zz := 1) (lw := fun x4 => [(2, .int x4), (1, .int x3), (0, .ref (z_ad z 1))]) dX1_countTold_30 2 rfl (by decide) (by decide) (fun _ => rfl) h (fun x4 h => ?_)
  refine ps_goto C (pc := 33) 4 dX1_countTold_33 (by decide) ?_
  obtain rfl := Option.some.inj h
  exact ps_sub [2, 1, 0] rfl k
def fX1_countTold_S4  (σ : ps_S) (a1 : Int32) (a2 : Int32) : Option ((Int32 × Int32) ⊕ ((Int32))) :=
  (if (256 : Int32) ≤ a2 then some (.inr a1)
  else (ps_ck (4 : Int32) 5 ((ps_ck a2 256 ((if (σ.1 (2 + 1 + (Int32.toNatClampNeg (4 : Int32))) (Int32.toNatClampNeg a2)) ≤ 0 then fX1_countTold_J28 a2 (0 : Int32) a1 σ
  else fX1_countTold_J28 a2 (1 : Int32) a1 σ))))))
set_option maxHeartbeats 4000000 in
set_option maxRecDepth 100000 in
theorem tX1_countTold_S4 {z : ps_X} (C : ps_C z cX1_countTold 3 "PartSums$Ground") (Z : ps_Z z 0 0)  (σ : ps_S)  (s : Int32 × Int32) (r : (Int32 × Int32) ⊕ ((Int32))) (h : fX1_countTold_S4  σ s.1 s.2 = some r) (k : ps_k (pX1_countTold_S4 z σ) (qX1_countTold_S4 z σ) r) : pX1_countTold_S4 z σ s := by
  obtain ⟨a1, a2⟩ := s
  unfold fX1_countTold_S4 at h
  unfold pX1_countTold_S4
  refine ps_iload_n C (pc := 4) dX1_countTold_4 2 rfl ?_
  refine ps_sipush C (pc := 5) (v := 256) dX1_countTold_5 (by decide) ?_
  refine ps_icmp_ge C (pc := 8) 36 dX1_countTold_8 (by decide) (fun hc => ?_) (fun hc => ?_)
  · have h := ps_ift hc h
    obtain rfl := Option.some.inj h
    exact ps_sub [1] rfl k
  · have h := ps_iff hc h
    refine ps_iload_n C (pc := 11) dX1_countTold_11 1 rfl ?_
    refine ps_aload_n C (pc := 12) dX1_countTold_12 0 rfl ?_
    refine pg_1_3 C (pc := 13) tw_104 dX1_countTold_13 ?_
    refine ps_iconst C (pc := 16) (v := 4) dX1_countTold_16 (by decide) ?_
    obtain ⟨hi1, h⟩ := ps_ck_s h
    refine ps_aald C (pc := 17) 2 rfl rfl hi1 dX1_countTold_17 ?_
    refine ps_iload_n C (pc := 18) dX1_countTold_18 2 rfl ?_
    obtain ⟨hi2, h⟩ := ps_ck_s h
    refine ps_iald C (pc := 19) (2 + 1 + (Int32.toNatClampNeg (4 : Int32))) (ps_rw2 hi1).1 (ps_rw2 hi1).2 hi2 dX1_countTold_19 ?_
    refine ps_if_le C (pc := 20) 27 dX1_countTold_20 (by decide) (fun hc => ?_) (fun hc => ?_)
    · have h := ps_ift hc h
      refine ps_iconst C (pc := 27) (v := 0) dX1_countTold_27 (by decide) ?_
      exact ps_sub [0, 2] rfl (tX1_countTold_J28 C Z  h k)
    · have h := ps_iff hc h
      refine ps_iconst C (pc := 23) (v := 1) dX1_countTold_23 (by decide) ?_
      refine ps_goto C (pc := 24) 28 dX1_countTold_24 (by decide) ?_
      exact ps_sub [0, 2] rfl (tX1_countTold_J28 C Z  h k)
def fX1_countTold (σ : ps_S) : Option (Int32) :=
  ((ps_lp (fun s => fX1_countTold_S4 σ s.1 s.2) 100000 ((0 : Int32), (0 : Int32))).bind fun e5 =>
  some e5)
set_option maxHeartbeats 4000000 in
set_option maxRecDepth 100000 in
theorem tX1_countTold {z : ps_X} (C : ps_C z cX1_countTold 3 "PartSums$Ground") (Z : ps_Z z 0 0) {σ : ps_S}  {r : Int32} (h : fX1_countTold σ = some r) (k : ps_KI z 3 cX1_countTold r σ) : ps_at z 3 0 [(0, .ref (z_ad z 1))] [] σ := by
  unfold fX1_countTold at h
  refine ps_iconst C (pc := 0) (v := 0) dX1_countTold_0 (by decide) ?_
  refine ps_istore_n C (pc := 1) (lv' := [(1, .int (0 : Int32)), (0, .ref (z_ad z 1))]) dX1_countTold_1 (by decide) rfl ?_
  refine ps_iconst C (pc := 2) (v := 0) dX1_countTold_2 (by decide) ?_
  refine ps_istore_n C (pc := 3) (lv' := [(2, .int (0 : Int32)), (1, .int (0 : Int32)), (0, .ref (z_ad z 1))]) dX1_countTold_3 (by decide) rfl ?_
  obtain ⟨e5, he5, h⟩ := ps_bd h
  refine ps_sub [2, 1, 0] rfl ?_
  refine ps_loop (P := pX1_countTold_S4 z σ) (K := qX1_countTold_S4 z σ) (fun s r h k => tX1_countTold_S4 C Z σ  s r h k) _ _ _ he5 ?_
  unfold qX1_countTold_S4
  refine ps_iload_n C (pc := 36) dX1_countTold_36 0 rfl ?_
  obtain rfl := Option.some.inj h
  exact k _ _ dX1_countTold_37
def rmX1_countTold : Room := { frames := 0, cells := 0, slots := 0, locals := 0 }
theorem mX1_countTold {l : Launch} {E : ps_E} {σ : ps_S}  {r : Int32}  (h : fX1_countTold σ = some r) : ps_MI l yX1_countTold (ps_wm yX1_countTold cX1_countTold 3 (some .int)) rmX1_countTold [.ref (e_ad E 1)] E σ r σ :=
  ps_metI yX1_countTold rmX1_countTold 3 (own := "PartSums$Ground") r (by decide +kernel) rfl (Nat.le_of_ble_eq_true rfl) rfl (fun z e1 e2 e3 e4 e5 C k => by
    subst e5
    exact tX1_countTold C (ps_Zof e1 e3 e4)  h k)
theorem hdX1_countTold : yX1_countTold.cls ≠ "java/lang/invoke/MethodHandle" ∧ yX1_countTold.cls ≠ "java/lang/invoke/VarHandle" ∧ (parseMethodDescriptor yX1_countTold.desc).map (fun d => d.parameters.length) = some 0 := by decide +kernel
def pX1_countParted_S5 (z : ps_X) (a1 : Int32) (a2 : Int32) (σ : ps_S) (s : Int32 × Int32) : Prop := ps_at z 6 5 [(0, .ref (z_ad z 1)), (1, .int a1), (2, .int a2), (3, .int s.1), (4, .int s.2)] [] σ
def qX1_countParted_S5 (z : ps_X) (a1 : Int32) (a2 : Int32) (σ : ps_S) (x : (Int32)) : Prop := match x with | y => ps_at z 6 66 [(3, .int y)] [] σ
def fX1_countParted_J58 (a1 : Int32) (a2 : Int32) (a4 : Int32) (u0 : Int32) (u1 : Int32) (σ : ps_S) : Option ((Int32 × Int32) ⊕ ((Int32))) :=
  (ps_let (u1 + u0) fun x1 =>
  (ps_let (a4 + (1 : Int32)) fun x2 =>
  some (.inl (x1, x2))))
set_option maxHeartbeats 4000000 in
set_option maxRecDepth 100000 in
theorem tX1_countParted_J58 {z : ps_X} (C : ps_C z cX1_countParted 6 "PartSums$Ground") (Z : ps_Z z 0 0) {a1 : Int32} {a2 : Int32} {a4 : Int32} {u0 : Int32} {u1 : Int32} {σ : ps_S}  {r : (Int32 × Int32) ⊕ ((Int32))} (h : fX1_countParted_J58 a1 a2 a4 u0 u1 σ = some r) (k : ps_k (pX1_countParted_S5 z a1 a2 σ) (qX1_countParted_S5 z a1 a2 σ) r) : ps_at z 6 58 [(0, .ref (z_ad z 1)), (1, .int a1), (2, .int a2), (4, .int a4)] [.int u0, .int u1] σ := by
  unfold fX1_countParted_J58 at h
  refine ps_iadd C (pc := 58) dX1_countParted_58 ?_
  refine ps_istoreL_n C (pc := 59) (lw := fun x1 => [(3, .int x1), (0, .ref (z_ad z 1)), (1, .int a1), (2, .int a2), (4, .int a4)]) dX1_countParted_59 (by decide) (fun _ => rfl) h (fun x1 h => ?_)
  refine ps_iincL C (pc := 60) (zz := 1) (lw := fun x2 => [(4, .int x2), (3, .int x1), (0, .ref (z_ad z 1)), (1, .int a1), (2, .int a2)]) dX1_countParted_60 4 rfl (by decide) (by decide) (fun _ => rfl) h (fun x2 h => ?_)
  refine ps_goto C (pc := 63) 5 dX1_countParted_63 (by decide) ?_
  obtain rfl := Option.some.inj h
  exact ps_sub [2, 3, 4, 1, 0] rfl k
def fX1_countParted_J57 (a1 : Int32) (a2 : Int32) (a4 : Int32) (u0 : Int32) (σ : ps_S) : Option ((Int32 × Int32) ⊕ ((Int32))) :=
  fX1_countParted_J58 a1 a2 a4 (0 : Int32) u0 σ
set_option maxHeartbeats 4000000 in
set_option maxRecDepth 100000 in
theorem tX1_countParted_J57 {z : ps_X} (C : ps_C z cX1_countParted 6 "PartSums$Ground") (Z : ps_Z z 0 0) {a1 : Int32} {a2 : Int32} {a4 : Int32} {u0 : Int32} {σ : ps_S}  {r : (Int32 × Int32) ⊕ ((Int32))} (h : fX1_countParted_J57 a1 a2 a4 u0 σ = some r) (k : ps_k (pX1_countParted_S5 z a1 a2 σ) (qX1_countParted_S5 z a1 a2 σ) r) : ps_at z 6 57 [(0, .ref (z_ad z 1)), (1, .int a1), (2, .int a2), (4, .int a4)] [.int u0] σ := by
  unfold fX1_countParted_J57 at h
  refine ps_iconst C (pc := 57) (v := 0) dX1_countParted_57 (by decide) ?_
  exact ps_sub [0, 1, 2, 3] rfl (tX1_countParted_J58 C Z  h k)
def fX1_countParted_J33 (a1 : Int32) (a2 : Int32) (a3 : Int32) (a4 : Int32) (u0 : Int32) (σ : ps_S) : Option ((Int32 × Int32) ⊕ ((Int32))) :=
  (if u0 = 0 then fX1_countParted_J57 a1 a2 a4 a3 σ
  else (ps_ck (4 : Int32) 5 ((ps_ck a4 256 ((if (σ.1 (2 + 1 + (Int32.toNatClampNeg (4 : Int32))) (Int32.toNatClampNeg a4)) ≤ 0 then fX1_countParted_J57 a1 a2 a4 a3 σ
  else fX1_countParted_J58 a1 a2 a4 (1 : Int32) a3 σ))))))
set_option maxHeartbeats 4000000 in
set_option maxRecDepth 100000 in
theorem tX1_countParted_J33 {z : ps_X} (C : ps_C z cX1_countParted 6 "PartSums$Ground") (Z : ps_Z z 0 0) {a1 : Int32} {a2 : Int32} {a3 : Int32} {a4 : Int32} {u0 : Int32} {σ : ps_S}  {r : (Int32 × Int32) ⊕ ((Int32))} (h : fX1_countParted_J33 a1 a2 a3 a4 u0 σ = some r) (k : ps_k (pX1_countParted_S5 z a1 a2 σ) (qX1_countParted_S5 z a1 a2 σ) r) : ps_at z 6 33 [(0, .ref (z_ad z 1)), (1, .int a1), (2, .int a2), (3, .int a3), (4, .int a4)] [.int u0] σ := by
  unfold fX1_countParted_J33 at h
  refine ps_istore C (pc := 33) (lv' := [(5, .int u0), (0, .ref (z_ad z 1)), (1, .int a1), (2, .int a2), (3, .int a3), (4, .int a4)]) dX1_countParted_33 (by decide) rfl ?_
  refine ps_iload_n C (pc := 35) dX1_countParted_35 4 rfl ?_
  refine ps_iload C (pc := 36) dX1_countParted_36 0 rfl ?_
  refine ps_if_eq C (pc := 38) 57 dX1_countParted_38 (by decide) (fun hc => ?_) (fun hc => ?_)
  · have h := ps_ift hc h
    exact ps_sub [1, 2, 3, 5] rfl (tX1_countParted_J57 C Z  h k)
  · have h := ps_iff hc h
    refine ps_aload_n C (pc := 41) dX1_countParted_41 1 rfl ?_
    refine pg_1_3 C (pc := 42) tw_104 dX1_countParted_42 ?_
    refine ps_iconst C (pc := 45) (v := 4) dX1_countParted_45 (by decide) ?_
    obtain ⟨hi3, h⟩ := ps_ck_s h
    refine ps_aald C (pc := 46) 2 rfl rfl hi3 dX1_countParted_46 ?_
    refine ps_iload C (pc := 47) dX1_countParted_47 5 rfl ?_
    obtain ⟨hi4, h⟩ := ps_ck_s h
    refine ps_iald C (pc := 49) (2 + 1 + (Int32.toNatClampNeg (4 : Int32))) (ps_rw2 hi3).1 (ps_rw2 hi3).2 hi4 dX1_countParted_49 ?_
    refine ps_if_le C (pc := 50) 57 dX1_countParted_50 (by decide) (fun hc => ?_) (fun hc => ?_)
    · have h := ps_ift hc h
      exact ps_sub [1, 2, 3, 5] rfl (tX1_countParted_J57 C Z  h k)
    · have h := ps_iff hc h
      refine ps_iconst C (pc := 53) (v := 1) dX1_countParted_53 (by decide) ?_
      refine ps_goto C (pc := 54) 58 dX1_countParted_54 (by decide) ?_
      exact ps_sub [1, 2, 3, 5] rfl (tX1_countParted_J58 C Z  h k)
def fX1_countParted_S5 (a1 : Int32) (a2 : Int32) (σ : ps_S) (a3 : Int32) (a4 : Int32) : Option ((Int32 × Int32) ⊕ ((Int32))) :=
  (if (256 : Int32) ≤ a4 then some (.inr a3)
  else (if ((a4 >>> (a1 &&& 31)) &&& (1 : Int32)) = ((a4 >>> (a2 &&& 31)) &&& (1 : Int32)) then fX1_countParted_J33 a1 a2 a3 a4 (0 : Int32) σ
  else fX1_countParted_J33 a1 a2 a3 a4 (1 : Int32) σ))
set_option maxHeartbeats 4000000 in
set_option maxRecDepth 100000 in
theorem tX1_countParted_S5 {z : ps_X} (C : ps_C z cX1_countParted 6 "PartSums$Ground") (Z : ps_Z z 0 0) (a1 : Int32) (a2 : Int32) (σ : ps_S)  (s : Int32 × Int32) (r : (Int32 × Int32) ⊕ ((Int32))) (h : fX1_countParted_S5 a1 a2 σ s.1 s.2 = some r) (k : ps_k (pX1_countParted_S5 z a1 a2 σ) (qX1_countParted_S5 z a1 a2 σ) r) : pX1_countParted_S5 z a1 a2 σ s := by
  obtain ⟨a3, a4⟩ := s
  unfold fX1_countParted_S5 at h
  unfold pX1_countParted_S5
  refine ps_iload C (pc := 5) dX1_countParted_5 4 rfl ?_
  refine ps_sipush C (pc := 7) (v := 256) dX1_countParted_7 (by decide) ?_
  refine ps_icmp_ge C (pc := 10) 66 dX1_countParted_10 (by decide) (fun hc => ?_) (fun hc => ?_)
  · have h := ps_ift hc h
    obtain rfl := Option.some.inj h
    exact ps_sub [3] rfl k
  · have h := ps_iff hc h
    refine ps_iload C (pc := 13) dX1_countParted_13 4 rfl ?_
    refine ps_iload_n C (pc := 15) dX1_countParted_15 1 rfl ?_
    refine ps_ishr C (pc := 16) dX1_countParted_16 ?_
    refine ps_iconst C (pc := 17) (v := 1) dX1_countParted_17 (by decide) ?_
    refine ps_iand C (pc := 18) dX1_countParted_18 ?_
    refine ps_iload C (pc := 19) dX1_countParted_19 4 rfl ?_
    refine ps_iload_n C (pc := 21) dX1_countParted_21 2 rfl ?_
    refine ps_ishr C (pc := 22) dX1_countParted_22 ?_
    refine ps_iconst C (pc := 23) (v := 1) dX1_countParted_23 (by decide) ?_
    refine ps_iand C (pc := 24) dX1_countParted_24 ?_
    refine ps_icmp_eq C (pc := 25) 32 dX1_countParted_25 (by decide) (fun hc => ?_) (fun hc => ?_)
    · have h := ps_ift hc h
      refine ps_iconst C (pc := 32) (v := 0) dX1_countParted_32 (by decide) ?_
      exact ps_sub [0, 1, 2, 3, 4] rfl (tX1_countParted_J33 C Z  h k)
    · have h := ps_iff hc h
      refine ps_iconst C (pc := 28) (v := 1) dX1_countParted_28 (by decide) ?_
      refine ps_goto C (pc := 29) 33 dX1_countParted_29 (by decide) ?_
      exact ps_sub [0, 1, 2, 3, 4] rfl (tX1_countParted_J33 C Z  h k)
def fX1_countParted (a1 : Int32) (a2 : Int32) (σ : ps_S) : Option (Int32) :=
  ((ps_lp (fun s => fX1_countParted_S5 a1 a2 σ s.1 s.2) 100000 ((0 : Int32), (0 : Int32))).bind fun e5 =>
  some e5)
set_option maxHeartbeats 4000000 in
set_option maxRecDepth 100000 in
theorem tX1_countParted {z : ps_X} (C : ps_C z cX1_countParted 6 "PartSums$Ground") (Z : ps_Z z 0 0) {a1 : Int32} {a2 : Int32} {σ : ps_S}  {r : Int32} (h : fX1_countParted a1 a2 σ = some r) (k : ps_KI z 6 cX1_countParted r σ) : ps_at z 6 0 [(0, .ref (z_ad z 1)), (1, .int a1), (2, .int a2)] [] σ := by
  unfold fX1_countParted at h
  refine ps_iconst C (pc := 0) (v := 0) dX1_countParted_0 (by decide) ?_
  refine ps_istore_n C (pc := 1) (lv' := [(3, .int (0 : Int32)), (0, .ref (z_ad z 1)), (1, .int a1), (2, .int a2)]) dX1_countParted_1 (by decide) rfl ?_
  refine ps_iconst C (pc := 2) (v := 0) dX1_countParted_2 (by decide) ?_
  refine ps_istore C (pc := 3) (lv' := [(4, .int (0 : Int32)), (3, .int (0 : Int32)), (0, .ref (z_ad z 1)), (1, .int a1), (2, .int a2)]) dX1_countParted_3 (by decide) rfl ?_
  obtain ⟨e5, he5, h⟩ := ps_bd h
  refine ps_sub [2, 3, 4, 1, 0] rfl ?_
  refine ps_loop (P := pX1_countParted_S5 z a1 a2 σ) (K := qX1_countParted_S5 z a1 a2 σ) (fun s r h k => tX1_countParted_S5 C Z a1 a2 σ  s r h k) _ _ _ he5 ?_
  unfold qX1_countParted_S5
  refine ps_iload_n C (pc := 66) dX1_countParted_66 0 rfl ?_
  obtain rfl := Option.some.inj h
  exact k _ _ dX1_countParted_67
def rmX1_countParted : Room := { frames := 0, cells := 0, slots := 0, locals := 0 }
theorem mX1_countParted {l : Launch} {E : ps_E} {σ : ps_S} {a1 : Int32} {a2 : Int32} {r : Int32}  (h : fX1_countParted a1 a2 σ = some r) : ps_MI l yX1_countParted (ps_wm yX1_countParted cX1_countParted 6 (some .int)) rmX1_countParted [.ref (e_ad E 1), .int a1, .int a2] E σ r σ :=
  ps_metI yX1_countParted rmX1_countParted 6 (own := "PartSums$Ground") r (by decide +kernel) rfl (Nat.le_of_ble_eq_true rfl) rfl (fun z e1 e2 e3 e4 e5 C k => by
    subst e5
    exact tX1_countParted C (ps_Zof e1 e3 e4)  h k)
theorem hdX1_countParted : yX1_countParted.cls ≠ "java/lang/invoke/MethodHandle" ∧ yX1_countParted.cls ≠ "java/lang/invoke/VarHandle" ∧ (parseMethodDescriptor yX1_countParted.desc).map (fun d => d.parameters.length) = some 2 := by decide +kernel
def pX1_swapNames_S11 (z : ps_X) (a1 : Int32) (a2 : Int32) (a3 : Int32) (s : Int32 × ps_S) : Prop := ps_at z 7 11 [(0, .ref (z_ad z 1)), (1, .int a1), (2, .int a2), (3, .int a3), (4, .int s.1)] [] s.2
def qX1_swapNames_S11 (z : ps_X) (a1 : Int32) (a2 : Int32) (a3 : Int32) (x : (ps_S)) : Prop := match x with | y => ps_at z 7 98 [(0, .ref (z_ad z 1)), (1, .int a1), (2, .int a2)] [] y
def pX1_swapNames_S20 (z : ps_X) (a1 : Int32) (a2 : Int32) (a3 : Int32) (a4 : Int32) (s : Int32 × ps_S) : Prop := ps_at z 7 20 [(0, .ref (z_ad z 1)), (1, .int a1), (2, .int a2), (3, .int a3), (4, .int a4), (5, .int s.1)] [] s.2
def qX1_swapNames_S20 (z : ps_X) (a1 : Int32) (a2 : Int32) (a3 : Int32) (a4 : Int32) (x : (ps_S)) : Prop := match x with | y => ps_at z 7 92 [(0, .ref (z_ad z 1)), (1, .int a1), (2, .int a2), (3, .int a3), (4, .int a4)] [] y
def fX1_swapNames_J86 (a1 : Int32) (a2 : Int32) (a3 : Int32) (a4 : Int32) (a5 : Int32) (σ : ps_S) : Option ((Int32 × ps_S) ⊕ ((ps_S))) :=
  (ps_let (a5 + (1 : Int32)) fun x2 =>
  some (.inl (x2, σ)))
set_option maxHeartbeats 4000000 in
set_option maxRecDepth 100000 in
theorem tX1_swapNames_J86 {z : ps_X} (C : ps_C z cX1_swapNames 7 "PartSums$Ground") (Z : ps_Z z 2 43) {a1 : Int32} {a2 : Int32} {a3 : Int32} {a4 : Int32} {a5 : Int32} {σ : ps_S}  {r : (Int32 × ps_S) ⊕ ((ps_S))} (h : fX1_swapNames_J86 a1 a2 a3 a4 a5 σ = some r) (k : ps_k (pX1_swapNames_S20 z a1 a2 a3 a4) (qX1_swapNames_S20 z a1 a2 a3 a4) r) : ps_at z 7 86 [(0, .ref (z_ad z 1)), (1, .int a1), (2, .int a2), (3, .int a3), (4, .int a4), (5, .int a5)] [] σ := by
  unfold fX1_swapNames_J86 at h
  refine ps_iincL C (pc := 86) (zz := 1) (lw := fun x2 => [(5, .int x2), (0, .ref (z_ad z 1)), (1, .int a1), (2, .int a2), (3, .int a3), (4, .int a4)]) dX1_swapNames_86 5 rfl (by decide) (by decide) (fun _ => rfl) h (fun x2 h => ?_)
  refine ps_goto C (pc := 89) 20 dX1_swapNames_89 (by decide) ?_
  obtain rfl := Option.some.inj h
  exact ps_sub [1, 2, 3, 4, 5, 0] rfl k
def fX1_swapNames_S20 (a1 : Int32) (a2 : Int32) (a3 : Int32) (a4 : Int32) (a5 : Int32) (σ : ps_S) : Option ((Int32 × ps_S) ⊕ ((ps_S))) :=
  (if (256 : Int32) ≤ a5 then some (.inr σ)
  else (if (a5 &&& a3) = ((1 : Int32) <<< (a1 &&& 31)) then (ps_ck a4 5 ((ps_ck a5 256 ((ps_let (σ.1 (2 + 1 + (Int32.toNatClampNeg a4)) (Int32.toNatClampNeg a5)) fun x5 =>
  (ps_ck a4 5 ((ps_ck a4 5 ((ps_ck (a5 ^^^ a3) 256 ((ps_ck a5 256 ((ps_let (ps_ui σ (2 + 1 + (Int32.toNatClampNeg a4)) (Int32.toNatClampNeg a5) (σ.1 (2 + 1 + (Int32.toNatClampNeg a4)) (Int32.toNatClampNeg (a5 ^^^ a3)))) fun σ10 =>
  (ps_ck a4 5 ((ps_ck (a5 ^^^ a3) 256 ((ps_let (ps_ui σ10 (2 + 1 + (Int32.toNatClampNeg a4)) (Int32.toNatClampNeg (a5 ^^^ a3)) x5) fun σ13 =>
  fX1_swapNames_J86 a1 a2 a3 a4 a5 σ13)))))))))))))))))))
  else fX1_swapNames_J86 a1 a2 a3 a4 a5 σ))
set_option maxHeartbeats 4000000 in
set_option maxRecDepth 100000 in
theorem tX1_swapNames_S20 {z : ps_X} (C : ps_C z cX1_swapNames 7 "PartSums$Ground") (Z : ps_Z z 2 43) (a1 : Int32) (a2 : Int32) (a3 : Int32) (a4 : Int32)  (s : Int32 × ps_S) (r : (Int32 × ps_S) ⊕ ((ps_S))) (h : fX1_swapNames_S20 a1 a2 a3 a4 s.1 s.2 = some r) (k : ps_k (pX1_swapNames_S20 z a1 a2 a3 a4) (qX1_swapNames_S20 z a1 a2 a3 a4) r) : pX1_swapNames_S20 z a1 a2 a3 a4 s := by
  obtain ⟨a5, σ⟩ := s
  unfold fX1_swapNames_S20 at h
  unfold pX1_swapNames_S20
  refine ps_iload C (pc := 20) dX1_swapNames_20 5 rfl ?_
  refine ps_sipush C (pc := 22) (v := 256) dX1_swapNames_22 (by decide) ?_
  refine ps_icmp_ge C (pc := 25) 92 dX1_swapNames_25 (by decide) (fun hc => ?_) (fun hc => ?_)
  · have h := ps_ift hc h
    obtain rfl := Option.some.inj h
    exact ps_sub [0, 1, 2, 3, 4] rfl k
  · have h := ps_iff hc h
    refine ps_iload C (pc := 28) dX1_swapNames_28 5 rfl ?_
    refine ps_iload_n C (pc := 30) dX1_swapNames_30 3 rfl ?_
    refine ps_iand C (pc := 31) dX1_swapNames_31 ?_
    refine ps_iconst C (pc := 32) (v := 1) dX1_swapNames_32 (by decide) ?_
    refine ps_iload_n C (pc := 33) dX1_swapNames_33 1 rfl ?_
    refine ps_ishl C (pc := 34) dX1_swapNames_34 ?_
    refine ps_icmp_ne C (pc := 35) 86 dX1_swapNames_35 (by decide) (fun hc => ?_) (fun hc => ?_)
    · have h := ps_iff hc h
      exact ps_sub [0, 1, 2, 3, 4, 5] rfl (tX1_swapNames_J86 C Z  h k)
    · have h := ps_ift hc h
      refine ps_aload_n C (pc := 38) dX1_swapNames_38 0 rfl ?_
      refine pg_1_3 C (pc := 39) tw_104 dX1_swapNames_39 ?_
      refine ps_iload C (pc := 42) dX1_swapNames_42 4 rfl ?_
      obtain ⟨hi3, h⟩ := ps_ck_s h
      refine ps_aald C (pc := 44) 2 rfl rfl hi3 dX1_swapNames_44 ?_
      refine ps_iload C (pc := 45) dX1_swapNames_45 5 rfl ?_
      obtain ⟨hi4, h⟩ := ps_ck_s h
      refine ps_iald C (pc := 47) (2 + 1 + (Int32.toNatClampNeg a4)) (ps_rw2 hi3).1 (ps_rw2 hi3).2 hi4 dX1_swapNames_47 ?_
      refine ps_istoreL C (pc := 48) (lw := fun x5 => [(6, .int x5), (0, .ref (z_ad z 1)), (1, .int a1), (2, .int a2), (3, .int a3), (4, .int a4), (5, .int a5)]) dX1_swapNames_48 (by decide) (fun _ => rfl) h (fun x5 h => ?_)
      refine ps_aload_n C (pc := 50) dX1_swapNames_50 1 rfl ?_
      refine pg_1_3 C (pc := 51) tw_104 dX1_swapNames_51 ?_
      refine ps_iload C (pc := 54) dX1_swapNames_54 5 rfl ?_
      obtain ⟨hi6, h⟩ := ps_ck_s h
      refine ps_aald C (pc := 56) 2 rfl rfl hi6 dX1_swapNames_56 ?_
      refine ps_iload C (pc := 57) dX1_swapNames_57 6 rfl ?_
      refine ps_aload_n C (pc := 59) dX1_swapNames_59 1 rfl ?_
      refine pg_1_3 C (pc := 60) tw_104 dX1_swapNames_60 ?_
      refine ps_iload C (pc := 63) dX1_swapNames_63 5 rfl ?_
      obtain ⟨hi7, h⟩ := ps_ck_s h
      refine ps_aald C (pc := 65) 2 rfl rfl hi7 dX1_swapNames_65 ?_
      refine ps_iload C (pc := 66) dX1_swapNames_66 6 rfl ?_
      refine ps_iload_n C (pc := 68) dX1_swapNames_68 4 rfl ?_
      refine ps_ixor C (pc := 69) dX1_swapNames_69 ?_
      obtain ⟨hi8, h⟩ := ps_ck_s h
      refine ps_iald C (pc := 70) (2 + 1 + (Int32.toNatClampNeg a4)) (ps_rw2 hi7).1 (ps_rw2 hi7).2 hi8 dX1_swapNames_70 ?_
      obtain ⟨hi9, h⟩ := ps_ck_s h
      refine ps_iastL C (pc := 71) (2 + 1 + (Int32.toNatClampNeg a4)) (ps_rw2 hi6).1 (ps_rw2 hi6).2 hi9 dX1_swapNames_71 h (fun σ10 h => ?_)
      refine ps_aload_n C (pc := 72) dX1_swapNames_72 1 rfl ?_
      refine pg_1_3 C (pc := 73) tw_104 dX1_swapNames_73 ?_
      refine ps_iload C (pc := 76) dX1_swapNames_76 5 rfl ?_
      obtain ⟨hi11, h⟩ := ps_ck_s h
      refine ps_aald C (pc := 78) 2 rfl rfl hi11 dX1_swapNames_78 ?_
      refine ps_iload C (pc := 79) dX1_swapNames_79 6 rfl ?_
      refine ps_iload_n C (pc := 81) dX1_swapNames_81 4 rfl ?_
      refine ps_ixor C (pc := 82) dX1_swapNames_82 ?_
      refine ps_iload C (pc := 83) dX1_swapNames_83 0 rfl ?_
      obtain ⟨hi12, h⟩ := ps_ck_s h
      refine ps_iastL C (pc := 85) (2 + 1 + (Int32.toNatClampNeg a4)) (ps_rw2 hi11).1 (ps_rw2 hi11).2 hi12 dX1_swapNames_85 h (fun σ13 h => ?_)
      exact ps_sub [1, 2, 3, 4, 5, 6] rfl (tX1_swapNames_J86 C Z  h k)
def fX1_swapNames_S11 (a1 : Int32) (a2 : Int32) (a3 : Int32) (a4 : Int32) (σ : ps_S) : Option ((Int32 × ps_S) ⊕ ((ps_S))) :=
  (if (5 : Int32) ≤ a4 then some (.inr σ)
  else ((ps_lp (fun s => fX1_swapNames_S20 a1 a2 a3 a4 s.1 s.2) 100000 ((0 : Int32), σ)).bind fun e14 =>
  (ps_let (a4 + (1 : Int32)) fun x15 =>
  some (.inl (x15, e14)))))
set_option maxHeartbeats 4000000 in
set_option maxRecDepth 100000 in
theorem tX1_swapNames_S11 {z : ps_X} (C : ps_C z cX1_swapNames 7 "PartSums$Ground") (Z : ps_Z z 2 43) (a1 : Int32) (a2 : Int32) (a3 : Int32)  (s : Int32 × ps_S) (r : (Int32 × ps_S) ⊕ ((ps_S))) (h : fX1_swapNames_S11 a1 a2 a3 s.1 s.2 = some r) (k : ps_k (pX1_swapNames_S11 z a1 a2 a3) (qX1_swapNames_S11 z a1 a2 a3) r) : pX1_swapNames_S11 z a1 a2 a3 s := by
  obtain ⟨a4, σ⟩ := s
  unfold fX1_swapNames_S11 at h
  unfold pX1_swapNames_S11
  refine ps_iload C (pc := 11) dX1_swapNames_11 4 rfl ?_
  refine ps_iconst C (pc := 13) (v := 5) dX1_swapNames_13 (by decide) ?_
  refine ps_icmp_ge C (pc := 14) 98 dX1_swapNames_14 (by decide) (fun hc => ?_) (fun hc => ?_)
  · have h := ps_ift hc h
    obtain rfl := Option.some.inj h
    exact ps_sub [0, 1, 2] rfl k
  · have h := ps_iff hc h
    refine ps_iconst C (pc := 17) (v := 0) dX1_swapNames_17 (by decide) ?_
    refine ps_istore C (pc := 18) (lv' := [(5, .int (0 : Int32)), (0, .ref (z_ad z 1)), (1, .int a1), (2, .int a2), (3, .int a3), (4, .int a4)]) dX1_swapNames_18 (by decide) rfl ?_
    obtain ⟨e14, he14, h⟩ := ps_bd h
    refine ps_sub [1, 2, 3, 4, 5, 0] rfl ?_
    refine ps_loop (P := pX1_swapNames_S20 z a1 a2 a3 a4) (K := qX1_swapNames_S20 z a1 a2 a3 a4) (fun s r h k => tX1_swapNames_S20 C Z a1 a2 a3 a4  s r h k) _ _ _ he14 ?_
    unfold qX1_swapNames_S20
    refine ps_iincL C (pc := 92) (zz := 1) (lw := fun x15 => [(4, .int x15), (0, .ref (z_ad z 1)), (1, .int a1), (2, .int a2), (3, .int a3)]) dX1_swapNames_92 4 rfl (by decide) (by decide) (fun _ => rfl) h (fun x15 h => ?_)
    refine ps_goto C (pc := 95) 11 dX1_swapNames_95 (by decide) ?_
    obtain rfl := Option.some.inj h
    exact ps_sub [1, 2, 3, 4, 0] rfl k
def pX1_swapNames_S101 (z : ps_X) (a1 : Int32) (a2 : Int32) (s : Int32 × ps_S) : Prop := ps_at z 7 101 [(0, .ref (z_ad z 1)), (1, .int a1), (2, .int a2), (4, .int s.1)] [] s.2
def qX1_swapNames_S101 (z : ps_X) (a1 : Int32) (a2 : Int32) (x : (ps_S)) : Prop := match x with | y => ps_at z 7 159 [] [] y
def fX1_swapNames_J153 (a1 : Int32) (a2 : Int32) (a4 : Int32) (σ : ps_S) : Option ((Int32 × ps_S) ⊕ ((ps_S))) :=
  (ps_let (a4 + (1 : Int32)) fun x17 =>
  some (.inl (x17, σ)))
set_option maxHeartbeats 4000000 in
set_option maxRecDepth 100000 in
theorem tX1_swapNames_J153 {z : ps_X} (C : ps_C z cX1_swapNames 7 "PartSums$Ground") (Z : ps_Z z 2 43) {a1 : Int32} {a2 : Int32} {a4 : Int32} {σ : ps_S}  {r : (Int32 × ps_S) ⊕ ((ps_S))} (h : fX1_swapNames_J153 a1 a2 a4 σ = some r) (k : ps_k (pX1_swapNames_S101 z a1 a2) (qX1_swapNames_S101 z a1 a2) r) : ps_at z 7 153 [(0, .ref (z_ad z 1)), (1, .int a1), (2, .int a2), (4, .int a4)] [] σ := by
  unfold fX1_swapNames_J153 at h
  refine ps_iincL C (pc := 153) (zz := 1) (lw := fun x17 => [(4, .int x17), (0, .ref (z_ad z 1)), (1, .int a1), (2, .int a2)]) dX1_swapNames_153 3 rfl (by decide) (by decide) (fun _ => rfl) h (fun x17 h => ?_)
  refine ps_goto C (pc := 156) 101 dX1_swapNames_156 (by decide) ?_
  obtain rfl := Option.some.inj h
  exact ps_sub [1, 2, 3, 0] rfl k
def fX1_swapNames_S101 (a1 : Int32) (a2 : Int32) (a4 : Int32) (σ : ps_S) : Option ((Int32 × ps_S) ⊕ ((ps_S))) :=
  (if (σ.1 1 0) ≤ a4 then some (.inr σ)
  else (if a4 = a1 then fX1_swapNames_J153 a1 a2 a4 σ
  else (if a4 = a2 then fX1_swapNames_J153 a1 a2 a4 σ
  else ((fX1_areMates a1 a4 σ).bind fun q18 =>
  ((fX1_areMates a2 a4 σ).bind fun q19 =>
  (if q18 = q19 then fX1_swapNames_J153 a1 a2 a4 σ
  else ((fX1_turnPair a1 a4 σ).bind fun q20 =>
  ((fX1_turnPair a2 a4 q20).bind fun q21 =>
  fX1_swapNames_J153 a1 a2 a4 q21))))))))
set_option maxHeartbeats 4000000 in
set_option maxRecDepth 100000 in
theorem tX1_swapNames_S101 {z : ps_X} (C : ps_C z cX1_swapNames 7 "PartSums$Ground") (Z : ps_Z z 2 43) (a1 : Int32) (a2 : Int32)  (s : Int32 × ps_S) (r : (Int32 × ps_S) ⊕ ((ps_S))) (h : fX1_swapNames_S101 a1 a2 s.1 s.2 = some r) (k : ps_k (pX1_swapNames_S101 z a1 a2) (qX1_swapNames_S101 z a1 a2) r) : pX1_swapNames_S101 z a1 a2 s := by
  obtain ⟨a4, σ⟩ := s
  unfold fX1_swapNames_S101 at h
  unfold pX1_swapNames_S101
  refine ps_iload C (pc := 101) dX1_swapNames_101 3 rfl ?_
  refine ps_aload_n C (pc := 103) dX1_swapNames_103 0 rfl ?_
  refine pg_1_0 C (pc := 104) tw_99 dX1_swapNames_104 ?_
  refine ps_icmp_ge C (pc := 107) 159 dX1_swapNames_107 (by decide) (fun hc => ?_) (fun hc => ?_)
  · have h := ps_ift hc h
    obtain rfl := Option.some.inj h
    exact ps_sub [] rfl k
  · have h := ps_iff hc h
    refine ps_iload C (pc := 110) dX1_swapNames_110 3 rfl ?_
    refine ps_iload_n C (pc := 112) dX1_swapNames_112 1 rfl ?_
    refine ps_icmp_eq C (pc := 113) 153 dX1_swapNames_113 (by decide) (fun hc => ?_) (fun hc => ?_)
    · have h := ps_ift hc h
      exact ps_sub [0, 1, 2, 3] rfl (tX1_swapNames_J153 C Z  h k)
    · have h := ps_iff hc h
      refine ps_iload C (pc := 116) dX1_swapNames_116 3 rfl ?_
      refine ps_iload_n C (pc := 118) dX1_swapNames_118 2 rfl ?_
      refine ps_icmp_eq C (pc := 119) 153 dX1_swapNames_119 (by decide) (fun hc => ?_) (fun hc => ?_)
      · have h := ps_ift hc h
        exact ps_sub [0, 1, 2, 3] rfl (tX1_swapNames_J153 C Z  h k)
      · have h := ps_iff hc h
        refine ps_aload_n C (pc := 122) dX1_swapNames_122 0 rfl ?_
        refine ps_iload_n C (pc := 123) dX1_swapNames_123 1 rfl ?_
        refine ps_iload C (pc := 124) dX1_swapNames_124 3 rfl ?_
        obtain ⟨q18, hq18, h⟩ := ps_bd h
        refine ps_callVI C Z (pc := 126) (As := [.int a1, .int a4]) (k0 := 1) (mX1_areMates  hq18) (Cn := "PartSums$Ground") rfl tw_651 tw_631 tw_632 tw_66 tw_633 hdX1_areMates rfl rfl ⟨by decide, by decide⟩ (by decide) ps_o1 rfl rfl (Nat.le_of_ble_eq_true rfl) dX1_swapNames_126 rfl ?_
        refine ps_aload_n C (pc := 129) dX1_swapNames_129 0 rfl ?_
        refine ps_iload_n C (pc := 130) dX1_swapNames_130 2 rfl ?_
        refine ps_iload C (pc := 131) dX1_swapNames_131 3 rfl ?_
        obtain ⟨q19, hq19, h⟩ := ps_bd h
        refine ps_callVI C Z (pc := 133) (As := [.int a2, .int a4]) (k0 := 1) (mX1_areMates  hq19) (Cn := "PartSums$Ground") rfl tw_651 tw_631 tw_632 tw_66 tw_633 hdX1_areMates rfl rfl ⟨by decide, by decide⟩ (by decide) ps_o1 rfl rfl (Nat.le_of_ble_eq_true rfl) dX1_swapNames_133 rfl ?_
        refine ps_icmp_eq C (pc := 136) 153 dX1_swapNames_136 (by decide) (fun hc => ?_) (fun hc => ?_)
        · have h := ps_ift hc h
          exact ps_sub [0, 1, 2, 3] rfl (tX1_swapNames_J153 C Z  h k)
        · have h := ps_iff hc h
          refine ps_aload_n C (pc := 139) dX1_swapNames_139 0 rfl ?_
          refine ps_iload_n C (pc := 140) dX1_swapNames_140 1 rfl ?_
          refine ps_iload C (pc := 141) dX1_swapNames_141 3 rfl ?_
          obtain ⟨q20, hq20, h⟩ := ps_bd h
          refine ps_callVV C Z (pc := 143) (As := [.int a1, .int a4]) (k0 := 1) (mX1_turnPair  hq20) (Cn := "PartSums$Ground") rfl tw_652 tw_636 tw_637 tw_66 tw_638 hdX1_turnPair rfl rfl ⟨by decide, by decide⟩ (by decide) ps_o1 rfl rfl (Nat.le_of_ble_eq_true rfl) dX1_swapNames_143 rfl ?_
          refine ps_aload_n C (pc := 146) dX1_swapNames_146 0 rfl ?_
          refine ps_iload_n C (pc := 147) dX1_swapNames_147 2 rfl ?_
          refine ps_iload C (pc := 148) dX1_swapNames_148 3 rfl ?_
          obtain ⟨q21, hq21, h⟩ := ps_bd h
          refine ps_callVV C Z (pc := 150) (As := [.int a2, .int a4]) (k0 := 1) (mX1_turnPair  hq21) (Cn := "PartSums$Ground") rfl tw_652 tw_636 tw_637 tw_66 tw_638 hdX1_turnPair rfl rfl ⟨by decide, by decide⟩ (by decide) ps_o1 rfl rfl (Nat.le_of_ble_eq_true rfl) dX1_swapNames_150 rfl ?_
          exact ps_sub [0, 1, 2, 3] rfl (tX1_swapNames_J153 C Z  h k)
def fX1_swapNames (a1 : Int32) (a2 : Int32) (σ : ps_S) : Option (ps_S) :=
  (ps_let (((1 : Int32) <<< (a1 &&& 31)) ||| ((1 : Int32) <<< (a2 &&& 31))) fun x1 =>
  ((ps_lp (fun s => fX1_swapNames_S11 a1 a2 x1 s.1 s.2) 100000 ((0 : Int32), σ)).bind fun e16 =>
  ((ps_lp (fun s => fX1_swapNames_S101 a1 a2 s.1 s.2) 100000 ((0 : Int32), e16)).bind fun e22 =>
  some e22)))
set_option maxHeartbeats 4000000 in
set_option maxRecDepth 100000 in
theorem tX1_swapNames {z : ps_X} (C : ps_C z cX1_swapNames 7 "PartSums$Ground") (Z : ps_Z z 2 43) {a1 : Int32} {a2 : Int32} {σ : ps_S}  {r : ps_S} (h : fX1_swapNames a1 a2 σ = some r) (k : ps_KV z 7 cX1_swapNames r) : ps_at z 7 0 [(0, .ref (z_ad z 1)), (1, .int a1), (2, .int a2)] [] σ := by
  unfold fX1_swapNames at h
  refine ps_iconst C (pc := 0) (v := 1) dX1_swapNames_0 (by decide) ?_
  refine ps_iload_n C (pc := 1) dX1_swapNames_1 1 rfl ?_
  refine ps_ishl C (pc := 2) dX1_swapNames_2 ?_
  refine ps_iconst C (pc := 3) (v := 1) dX1_swapNames_3 (by decide) ?_
  refine ps_iload_n C (pc := 4) dX1_swapNames_4 2 rfl ?_
  refine ps_ishl C (pc := 5) dX1_swapNames_5 ?_
  refine ps_ior C (pc := 6) dX1_swapNames_6 ?_
  refine ps_istoreL_n C (pc := 7) (lw := fun x1 => [(3, .int x1), (0, .ref (z_ad z 1)), (1, .int a1), (2, .int a2)]) dX1_swapNames_7 (by decide) (fun _ => rfl) h (fun x1 h => ?_)
  refine ps_iconst C (pc := 8) (v := 0) dX1_swapNames_8 (by decide) ?_
  refine ps_istore C (pc := 9) (lv' := [(4, .int (0 : Int32)), (3, .int x1), (0, .ref (z_ad z 1)), (1, .int a1), (2, .int a2)]) dX1_swapNames_9 (by decide) rfl ?_
  obtain ⟨e16, he16, h⟩ := ps_bd h
  refine ps_sub [2, 3, 4, 1, 0] rfl ?_
  refine ps_loop (P := pX1_swapNames_S11 z a1 a2 x1) (K := qX1_swapNames_S11 z a1 a2 x1) (fun s r h k => tX1_swapNames_S11 C Z a1 a2 x1  s r h k) _ _ _ he16 ?_
  unfold qX1_swapNames_S11
  refine ps_iconst C (pc := 98) (v := 0) dX1_swapNames_98 (by decide) ?_
  refine ps_istore C (pc := 99) (lv' := [(4, .int (0 : Int32)), (0, .ref (z_ad z 1)), (1, .int a1), (2, .int a2)]) dX1_swapNames_99 (by decide) rfl ?_
  obtain ⟨e22, he22, h⟩ := ps_bd h
  refine ps_sub [1, 2, 3, 0] rfl ?_
  refine ps_loop (P := pX1_swapNames_S101 z a1 a2) (K := qX1_swapNames_S101 z a1 a2) (fun s r h k => tX1_swapNames_S101 C Z a1 a2  s r h k) _ _ _ he22 ?_
  unfold qX1_swapNames_S101
  obtain rfl := Option.some.inj h
  exact k _ _ dX1_swapNames_159
def rmX1_swapNames : Room := { frames := 2, cells := 0, slots := 0, locals := 43 }
theorem mX1_swapNames {l : Launch} {E : ps_E} {σ : ps_S} {a1 : Int32} {a2 : Int32} {r : ps_S}  (h : fX1_swapNames a1 a2 σ = some r) : ps_MV l yX1_swapNames (ps_wm yX1_swapNames cX1_swapNames 7 none) rmX1_swapNames [.ref (e_ad E 1), .int a1, .int a2] E σ r :=
  ps_metV yX1_swapNames rmX1_swapNames 7 (own := "PartSums$Ground")  (by decide +kernel) rfl (Nat.le_of_ble_eq_true rfl) rfl (fun z e1 e2 e3 e4 e5 C k => by
    subst e5
    exact tX1_swapNames C (ps_Zof e1 e3 e4)  h k)
theorem hdX1_swapNames : yX1_swapNames.cls ≠ "java/lang/invoke/MethodHandle" ∧ yX1_swapNames.cls ≠ "java/lang/invoke/VarHandle" ∧ (parseMethodDescriptor yX1_swapNames.desc).map (fun d => d.parameters.length) = some 2 := by decide +kernel
def pX1_copyFrom_8_1_S18 (z : ps_X)  (s : Int32 × ps_S) : Prop := ps_at z 3 18 [(0, .ref (z_ad z 8)), (1, .ref (z_ad z 1)), (2, .int s.1)] [] s.2
def qX1_copyFrom_8_1_S18 (z : ps_X)  (x : (ps_S)) : Prop := match x with | y => ps_at z 3 49 [] [] y
def fX1_copyFrom_8_1_S18  (a2 : Int32) (σ : ps_S) : Option ((Int32 × ps_S) ⊕ ((ps_S))) :=
  (if (5 : Int32) ≤ a2 then some (.inr σ)
  else (ps_ck a2 5 ((ps_ck a2 5 ((ps_cc (0 : Int32) (0 : Int32) (256 : Int32) 256 256 (ps_let (ps_ur σ (9 + 1 + (Int32.toNatClampNeg a2)) (va_cpy (σ.1 (2 + 1 + (Int32.toNatClampNeg a2))) (σ.1 (9 + 1 + (Int32.toNatClampNeg a2))) (Int32.toNatClampNeg (0 : Int32)) (Int32.toNatClampNeg (0 : Int32)) (Int32.toNatClampNeg (256 : Int32)))) fun σ6 =>
  (ps_let (a2 + (1 : Int32)) fun x7 =>
  some (.inl (x7, σ6))))))))))
set_option maxHeartbeats 4000000 in
set_option maxRecDepth 100000 in
theorem tX1_copyFrom_8_1_S18 {z : ps_X} (C : ps_C z cX1_copyFrom 3 "PartSums$Ground") (Z : ps_Z z 1 100)   (s : Int32 × ps_S) (r : (Int32 × ps_S) ⊕ ((ps_S))) (h : fX1_copyFrom_8_1_S18  s.1 s.2 = some r) (k : ps_k (pX1_copyFrom_8_1_S18 z ) (qX1_copyFrom_8_1_S18 z ) r) : pX1_copyFrom_8_1_S18 z  s := by
  obtain ⟨a2, σ⟩ := s
  unfold fX1_copyFrom_8_1_S18 at h
  unfold pX1_copyFrom_8_1_S18
  refine ps_iload_n C (pc := 18) dX1_copyFrom_18 2 rfl ?_
  refine ps_iconst C (pc := 19) (v := 5) dX1_copyFrom_19 (by decide) ?_
  refine ps_icmp_ge C (pc := 20) 49 dX1_copyFrom_20 (by decide) (fun hc => ?_) (fun hc => ?_)
  · have h := ps_ift hc h
    obtain rfl := Option.some.inj h
    exact ps_sub [] rfl k
  · have h := ps_iff hc h
    refine ps_aload_n C (pc := 23) dX1_copyFrom_23 1 rfl ?_
    refine pg_1_3 C (pc := 24) tw_104 dX1_copyFrom_24 ?_
    refine ps_iload_n C (pc := 27) dX1_copyFrom_27 2 rfl ?_
    obtain ⟨hi3, h⟩ := ps_ck_s h
    refine ps_aald C (pc := 28) 2 rfl rfl hi3 dX1_copyFrom_28 ?_
    refine ps_iconst C (pc := 29) (v := 0) dX1_copyFrom_29 (by decide) ?_
    refine ps_aload_n C (pc := 30) dX1_copyFrom_30 0 rfl ?_
    refine pg_8_3 C (pc := 31) tw_104 dX1_copyFrom_31 ?_
    refine ps_iload_n C (pc := 34) dX1_copyFrom_34 2 rfl ?_
    obtain ⟨hi4, h⟩ := ps_ck_s h
    refine ps_aald C (pc := 35) 9 rfl rfl hi4 dX1_copyFrom_35 ?_
    refine ps_iconst C (pc := 36) (v := 0) dX1_copyFrom_36 (by decide) ?_
    refine ps_sipush C (pc := 37) (v := 256) dX1_copyFrom_37 (by decide) ?_
    obtain ⟨hi5, h⟩ := ps_cc_s h
    refine ps_copyZ C Z (pc := 40) (2 + 1 + (Int32.toNatClampNeg a2)) (9 + 1 + (Int32.toNatClampNeg a2)) (ps_rw2 hi3).1 (ps_rw9 hi4).1 (ps_rw2 hi3).2 (ps_rw9 hi4).2 hi5 tw_371 tw_373 tw_372 tw_77 (by decide) (Nat.le_of_ble_eq_true rfl) dX1_copyFrom_40 h (fun σ6 h => ?_)
    refine ps_iincL C (pc := 43) (zz := 1) (lw := fun x7 => [(2, .int x7), (0, .ref (z_ad z 8)), (1, .ref (z_ad z 1))]) dX1_copyFrom_43 2 rfl (by decide) (by decide) (fun _ => rfl) h (fun x7 h => ?_)
    refine ps_goto C (pc := 46) 18 dX1_copyFrom_46 (by decide) ?_
    obtain rfl := Option.some.inj h
    exact ps_sub [1, 2, 0] rfl k
def fX1_copyFrom_8_1 (σ : ps_S) : Option (ps_S) :=
  (ps_let (ps_ui σ 8 0 (σ.1 1 0)) fun σ1 =>
  (ps_let (ps_ul σ1 8 1 (σ1.2 1 1)) fun σ2 =>
  ((ps_lp (fun s => fX1_copyFrom_8_1_S18  s.1 s.2) 100000 ((0 : Int32), σ2)).bind fun e8 =>
  some e8)))
set_option maxHeartbeats 4000000 in
set_option maxRecDepth 100000 in
theorem tX1_copyFrom_8_1 {z : ps_X} (C : ps_C z cX1_copyFrom 3 "PartSums$Ground") (Z : ps_Z z 1 100) {σ : ps_S}  {r : ps_S} (h : fX1_copyFrom_8_1 σ = some r) (k : ps_KV z 3 cX1_copyFrom r) : ps_at z 3 0 [(0, .ref (z_ad z 8)), (1, .ref (z_ad z 1))] [] σ := by
  unfold fX1_copyFrom_8_1 at h
  refine ps_aload_n C (pc := 0) dX1_copyFrom_0 0 rfl ?_
  refine ps_aload_n C (pc := 1) dX1_copyFrom_1 1 rfl ?_
  refine pg_1_0 C (pc := 2) tw_99 dX1_copyFrom_2 ?_
  refine pp_8_0 C (pc := 5) tw_99 dX1_copyFrom_5 h (fun σ1 h => ?_)
  refine ps_aload_n C (pc := 8) dX1_copyFrom_8 0 rfl ?_
  refine ps_aload_n C (pc := 9) dX1_copyFrom_9 1 rfl ?_
  refine pg_1_1 C (pc := 10) tw_101 dX1_copyFrom_10 ?_
  refine pp_8_1 C (pc := 13) tw_101 dX1_copyFrom_13 h (fun σ2 h => ?_)
  refine ps_iconst C (pc := 16) (v := 0) dX1_copyFrom_16 (by decide) ?_
  refine ps_istore_n C (pc := 17) (lv' := [(2, .int (0 : Int32)), (0, .ref (z_ad z 8)), (1, .ref (z_ad z 1))]) dX1_copyFrom_17 (by decide) rfl ?_
  obtain ⟨e8, he8, h⟩ := ps_bd h
  refine ps_sub [1, 2, 0] rfl ?_
  refine ps_loop (P := pX1_copyFrom_8_1_S18 z ) (K := qX1_copyFrom_8_1_S18 z ) (fun s r h k => tX1_copyFrom_8_1_S18 C Z   s r h k) _ _ _ he8 ?_
  unfold qX1_copyFrom_8_1_S18
  obtain rfl := Option.some.inj h
  exact k _ _ dX1_copyFrom_49
def rmX1_copyFrom_8_1 : Room := { frames := 1, cells := 0, slots := 0, locals := 100 }
theorem mX1_copyFrom_8_1 {l : Launch} {E : ps_E} {σ : ps_S}  {r : ps_S}  (h : fX1_copyFrom_8_1 σ = some r) : ps_MV l yX1_copyFrom (ps_wm yX1_copyFrom cX1_copyFrom 3 none) rmX1_copyFrom_8_1 [.ref (e_ad E 8), .ref (e_ad E 1)] E σ r :=
  ps_metV yX1_copyFrom rmX1_copyFrom_8_1 3 (own := "PartSums$Ground")  (by decide +kernel) rfl (Nat.le_of_ble_eq_true rfl) rfl (fun z e1 e2 e3 e4 e5 C k => by
    subst e5
    exact tX1_copyFrom_8_1 C (ps_Zof e1 e3 e4)  h k)
theorem hdX1_copyFrom : yX1_copyFrom.cls ≠ "java/lang/invoke/MethodHandle" ∧ yX1_copyFrom.cls ≠ "java/lang/invoke/VarHandle" ∧ (parseMethodDescriptor yX1_copyFrom.desc).map (fun d => d.parameters.length) = some 1 := by decide +kernel
def pX1_copyFrom_15_1_S18 (z : ps_X)  (s : Int32 × ps_S) : Prop := ps_at z 3 18 [(0, .ref (z_ad z 15)), (1, .ref (z_ad z 1)), (2, .int s.1)] [] s.2
def qX1_copyFrom_15_1_S18 (z : ps_X)  (x : (ps_S)) : Prop := match x with | y => ps_at z 3 49 [] [] y
def fX1_copyFrom_15_1_S18  (a2 : Int32) (σ : ps_S) : Option ((Int32 × ps_S) ⊕ ((ps_S))) :=
  (if (5 : Int32) ≤ a2 then some (.inr σ)
  else (ps_ck a2 5 ((ps_ck a2 5 ((ps_cc (0 : Int32) (0 : Int32) (256 : Int32) 256 256 (ps_let (ps_ur σ (16 + 1 + (Int32.toNatClampNeg a2)) (va_cpy (σ.1 (2 + 1 + (Int32.toNatClampNeg a2))) (σ.1 (16 + 1 + (Int32.toNatClampNeg a2))) (Int32.toNatClampNeg (0 : Int32)) (Int32.toNatClampNeg (0 : Int32)) (Int32.toNatClampNeg (256 : Int32)))) fun σ6 =>
  (ps_let (a2 + (1 : Int32)) fun x7 =>
  some (.inl (x7, σ6))))))))))
set_option maxHeartbeats 4000000 in
set_option maxRecDepth 100000 in
theorem tX1_copyFrom_15_1_S18 {z : ps_X} (C : ps_C z cX1_copyFrom 3 "PartSums$Ground") (Z : ps_Z z 1 100)   (s : Int32 × ps_S) (r : (Int32 × ps_S) ⊕ ((ps_S))) (h : fX1_copyFrom_15_1_S18  s.1 s.2 = some r) (k : ps_k (pX1_copyFrom_15_1_S18 z ) (qX1_copyFrom_15_1_S18 z ) r) : pX1_copyFrom_15_1_S18 z  s := by
  obtain ⟨a2, σ⟩ := s
  unfold fX1_copyFrom_15_1_S18 at h
  unfold pX1_copyFrom_15_1_S18
  refine ps_iload_n C (pc := 18) dX1_copyFrom_18 2 rfl ?_
  refine ps_iconst C (pc := 19) (v := 5) dX1_copyFrom_19 (by decide) ?_
  refine ps_icmp_ge C (pc := 20) 49 dX1_copyFrom_20 (by decide) (fun hc => ?_) (fun hc => ?_)
  · have h := ps_ift hc h
    obtain rfl := Option.some.inj h
    exact ps_sub [] rfl k
  · have h := ps_iff hc h
    refine ps_aload_n C (pc := 23) dX1_copyFrom_23 1 rfl ?_
    refine pg_1_3 C (pc := 24) tw_104 dX1_copyFrom_24 ?_
    refine ps_iload_n C (pc := 27) dX1_copyFrom_27 2 rfl ?_
    obtain ⟨hi3, h⟩ := ps_ck_s h
    refine ps_aald C (pc := 28) 2 rfl rfl hi3 dX1_copyFrom_28 ?_
    refine ps_iconst C (pc := 29) (v := 0) dX1_copyFrom_29 (by decide) ?_
    refine ps_aload_n C (pc := 30) dX1_copyFrom_30 0 rfl ?_
    refine pg_15_3 C (pc := 31) tw_104 dX1_copyFrom_31 ?_
    refine ps_iload_n C (pc := 34) dX1_copyFrom_34 2 rfl ?_
    obtain ⟨hi4, h⟩ := ps_ck_s h
    refine ps_aald C (pc := 35) 16 rfl rfl hi4 dX1_copyFrom_35 ?_
    refine ps_iconst C (pc := 36) (v := 0) dX1_copyFrom_36 (by decide) ?_
    refine ps_sipush C (pc := 37) (v := 256) dX1_copyFrom_37 (by decide) ?_
    obtain ⟨hi5, h⟩ := ps_cc_s h
    refine ps_copyZ C Z (pc := 40) (2 + 1 + (Int32.toNatClampNeg a2)) (16 + 1 + (Int32.toNatClampNeg a2)) (ps_rw2 hi3).1 (ps_rw16 hi4).1 (ps_rw2 hi3).2 (ps_rw16 hi4).2 hi5 tw_371 tw_373 tw_372 tw_77 (by decide) (Nat.le_of_ble_eq_true rfl) dX1_copyFrom_40 h (fun σ6 h => ?_)
    refine ps_iincL C (pc := 43) (zz := 1) (lw := fun x7 => [(2, .int x7), (0, .ref (z_ad z 15)), (1, .ref (z_ad z 1))]) dX1_copyFrom_43 2 rfl (by decide) (by decide) (fun _ => rfl) h (fun x7 h => ?_)
    refine ps_goto C (pc := 46) 18 dX1_copyFrom_46 (by decide) ?_
    obtain rfl := Option.some.inj h
    exact ps_sub [1, 2, 0] rfl k
def fX1_copyFrom_15_1 (σ : ps_S) : Option (ps_S) :=
  (ps_let (ps_ui σ 15 0 (σ.1 1 0)) fun σ1 =>
  (ps_let (ps_ul σ1 15 1 (σ1.2 1 1)) fun σ2 =>
  ((ps_lp (fun s => fX1_copyFrom_15_1_S18  s.1 s.2) 100000 ((0 : Int32), σ2)).bind fun e8 =>
  some e8)))
set_option maxHeartbeats 4000000 in
set_option maxRecDepth 100000 in
theorem tX1_copyFrom_15_1 {z : ps_X} (C : ps_C z cX1_copyFrom 3 "PartSums$Ground") (Z : ps_Z z 1 100) {σ : ps_S}  {r : ps_S} (h : fX1_copyFrom_15_1 σ = some r) (k : ps_KV z 3 cX1_copyFrom r) : ps_at z 3 0 [(0, .ref (z_ad z 15)), (1, .ref (z_ad z 1))] [] σ := by
  unfold fX1_copyFrom_15_1 at h
  refine ps_aload_n C (pc := 0) dX1_copyFrom_0 0 rfl ?_
  refine ps_aload_n C (pc := 1) dX1_copyFrom_1 1 rfl ?_
  refine pg_1_0 C (pc := 2) tw_99 dX1_copyFrom_2 ?_
  refine pp_15_0 C (pc := 5) tw_99 dX1_copyFrom_5 h (fun σ1 h => ?_)
  refine ps_aload_n C (pc := 8) dX1_copyFrom_8 0 rfl ?_
  refine ps_aload_n C (pc := 9) dX1_copyFrom_9 1 rfl ?_
  refine pg_1_1 C (pc := 10) tw_101 dX1_copyFrom_10 ?_
  refine pp_15_1 C (pc := 13) tw_101 dX1_copyFrom_13 h (fun σ2 h => ?_)
  refine ps_iconst C (pc := 16) (v := 0) dX1_copyFrom_16 (by decide) ?_
  refine ps_istore_n C (pc := 17) (lv' := [(2, .int (0 : Int32)), (0, .ref (z_ad z 15)), (1, .ref (z_ad z 1))]) dX1_copyFrom_17 (by decide) rfl ?_
  obtain ⟨e8, he8, h⟩ := ps_bd h
  refine ps_sub [1, 2, 0] rfl ?_
  refine ps_loop (P := pX1_copyFrom_15_1_S18 z ) (K := qX1_copyFrom_15_1_S18 z ) (fun s r h k => tX1_copyFrom_15_1_S18 C Z   s r h k) _ _ _ he8 ?_
  unfold qX1_copyFrom_15_1_S18
  obtain rfl := Option.some.inj h
  exact k _ _ dX1_copyFrom_49
def rmX1_copyFrom_15_1 : Room := { frames := 1, cells := 0, slots := 0, locals := 100 }
theorem mX1_copyFrom_15_1 {l : Launch} {E : ps_E} {σ : ps_S}  {r : ps_S}  (h : fX1_copyFrom_15_1 σ = some r) : ps_MV l yX1_copyFrom (ps_wm yX1_copyFrom cX1_copyFrom 3 none) rmX1_copyFrom_15_1 [.ref (e_ad E 15), .ref (e_ad E 1)] E σ r :=
  ps_metV yX1_copyFrom rmX1_copyFrom_15_1 3 (own := "PartSums$Ground")  (by decide +kernel) rfl (Nat.le_of_ble_eq_true rfl) rfl (fun z e1 e2 e3 e4 e5 C k => by
    subst e5
    exact tX1_copyFrom_15_1 C (ps_Zof e1 e3 e4)  h k)
def pX1_copyFrom_1_8_S18 (z : ps_X)  (s : Int32 × ps_S) : Prop := ps_at z 3 18 [(0, .ref (z_ad z 1)), (1, .ref (z_ad z 8)), (2, .int s.1)] [] s.2
def qX1_copyFrom_1_8_S18 (z : ps_X)  (x : (ps_S)) : Prop := match x with | y => ps_at z 3 49 [] [] y
def fX1_copyFrom_1_8_S18  (a2 : Int32) (σ : ps_S) : Option ((Int32 × ps_S) ⊕ ((ps_S))) :=
  (if (5 : Int32) ≤ a2 then some (.inr σ)
  else (ps_ck a2 5 ((ps_ck a2 5 ((ps_cc (0 : Int32) (0 : Int32) (256 : Int32) 256 256 (ps_let (ps_ur σ (2 + 1 + (Int32.toNatClampNeg a2)) (va_cpy (σ.1 (9 + 1 + (Int32.toNatClampNeg a2))) (σ.1 (2 + 1 + (Int32.toNatClampNeg a2))) (Int32.toNatClampNeg (0 : Int32)) (Int32.toNatClampNeg (0 : Int32)) (Int32.toNatClampNeg (256 : Int32)))) fun σ6 =>
  (ps_let (a2 + (1 : Int32)) fun x7 =>
  some (.inl (x7, σ6))))))))))
set_option maxHeartbeats 4000000 in
set_option maxRecDepth 100000 in
theorem tX1_copyFrom_1_8_S18 {z : ps_X} (C : ps_C z cX1_copyFrom 3 "PartSums$Ground") (Z : ps_Z z 1 100)   (s : Int32 × ps_S) (r : (Int32 × ps_S) ⊕ ((ps_S))) (h : fX1_copyFrom_1_8_S18  s.1 s.2 = some r) (k : ps_k (pX1_copyFrom_1_8_S18 z ) (qX1_copyFrom_1_8_S18 z ) r) : pX1_copyFrom_1_8_S18 z  s := by
  obtain ⟨a2, σ⟩ := s
  unfold fX1_copyFrom_1_8_S18 at h
  unfold pX1_copyFrom_1_8_S18
  refine ps_iload_n C (pc := 18) dX1_copyFrom_18 2 rfl ?_
  refine ps_iconst C (pc := 19) (v := 5) dX1_copyFrom_19 (by decide) ?_
  refine ps_icmp_ge C (pc := 20) 49 dX1_copyFrom_20 (by decide) (fun hc => ?_) (fun hc => ?_)
  · have h := ps_ift hc h
    obtain rfl := Option.some.inj h
    exact ps_sub [] rfl k
  · have h := ps_iff hc h
    refine ps_aload_n C (pc := 23) dX1_copyFrom_23 1 rfl ?_
    refine pg_8_3 C (pc := 24) tw_104 dX1_copyFrom_24 ?_
    refine ps_iload_n C (pc := 27) dX1_copyFrom_27 2 rfl ?_
    obtain ⟨hi3, h⟩ := ps_ck_s h
    refine ps_aald C (pc := 28) 9 rfl rfl hi3 dX1_copyFrom_28 ?_
    refine ps_iconst C (pc := 29) (v := 0) dX1_copyFrom_29 (by decide) ?_
    refine ps_aload_n C (pc := 30) dX1_copyFrom_30 0 rfl ?_
    refine pg_1_3 C (pc := 31) tw_104 dX1_copyFrom_31 ?_
    refine ps_iload_n C (pc := 34) dX1_copyFrom_34 2 rfl ?_
    obtain ⟨hi4, h⟩ := ps_ck_s h
    refine ps_aald C (pc := 35) 2 rfl rfl hi4 dX1_copyFrom_35 ?_
    refine ps_iconst C (pc := 36) (v := 0) dX1_copyFrom_36 (by decide) ?_
    refine ps_sipush C (pc := 37) (v := 256) dX1_copyFrom_37 (by decide) ?_
    obtain ⟨hi5, h⟩ := ps_cc_s h
    refine ps_copyZ C Z (pc := 40) (9 + 1 + (Int32.toNatClampNeg a2)) (2 + 1 + (Int32.toNatClampNeg a2)) (ps_rw9 hi3).1 (ps_rw2 hi4).1 (ps_rw9 hi3).2 (ps_rw2 hi4).2 hi5 tw_371 tw_373 tw_372 tw_77 (by decide) (Nat.le_of_ble_eq_true rfl) dX1_copyFrom_40 h (fun σ6 h => ?_)
    refine ps_iincL C (pc := 43) (zz := 1) (lw := fun x7 => [(2, .int x7), (0, .ref (z_ad z 1)), (1, .ref (z_ad z 8))]) dX1_copyFrom_43 2 rfl (by decide) (by decide) (fun _ => rfl) h (fun x7 h => ?_)
    refine ps_goto C (pc := 46) 18 dX1_copyFrom_46 (by decide) ?_
    obtain rfl := Option.some.inj h
    exact ps_sub [1, 2, 0] rfl k
def fX1_copyFrom_1_8 (σ : ps_S) : Option (ps_S) :=
  (ps_let (ps_ui σ 1 0 (σ.1 8 0)) fun σ1 =>
  (ps_let (ps_ul σ1 1 1 (σ1.2 8 1)) fun σ2 =>
  ((ps_lp (fun s => fX1_copyFrom_1_8_S18  s.1 s.2) 100000 ((0 : Int32), σ2)).bind fun e8 =>
  some e8)))
set_option maxHeartbeats 4000000 in
set_option maxRecDepth 100000 in
theorem tX1_copyFrom_1_8 {z : ps_X} (C : ps_C z cX1_copyFrom 3 "PartSums$Ground") (Z : ps_Z z 1 100) {σ : ps_S}  {r : ps_S} (h : fX1_copyFrom_1_8 σ = some r) (k : ps_KV z 3 cX1_copyFrom r) : ps_at z 3 0 [(0, .ref (z_ad z 1)), (1, .ref (z_ad z 8))] [] σ := by
  unfold fX1_copyFrom_1_8 at h
  refine ps_aload_n C (pc := 0) dX1_copyFrom_0 0 rfl ?_
  refine ps_aload_n C (pc := 1) dX1_copyFrom_1 1 rfl ?_
  refine pg_8_0 C (pc := 2) tw_99 dX1_copyFrom_2 ?_
  refine pp_1_0 C (pc := 5) tw_99 dX1_copyFrom_5 h (fun σ1 h => ?_)
  refine ps_aload_n C (pc := 8) dX1_copyFrom_8 0 rfl ?_
  refine ps_aload_n C (pc := 9) dX1_copyFrom_9 1 rfl ?_
  refine pg_8_1 C (pc := 10) tw_101 dX1_copyFrom_10 ?_
  refine pp_1_1 C (pc := 13) tw_101 dX1_copyFrom_13 h (fun σ2 h => ?_)
  refine ps_iconst C (pc := 16) (v := 0) dX1_copyFrom_16 (by decide) ?_
  refine ps_istore_n C (pc := 17) (lv' := [(2, .int (0 : Int32)), (0, .ref (z_ad z 1)), (1, .ref (z_ad z 8))]) dX1_copyFrom_17 (by decide) rfl ?_
  obtain ⟨e8, he8, h⟩ := ps_bd h
  refine ps_sub [1, 2, 0] rfl ?_
  refine ps_loop (P := pX1_copyFrom_1_8_S18 z ) (K := qX1_copyFrom_1_8_S18 z ) (fun s r h k => tX1_copyFrom_1_8_S18 C Z   s r h k) _ _ _ he8 ?_
  unfold qX1_copyFrom_1_8_S18
  obtain rfl := Option.some.inj h
  exact k _ _ dX1_copyFrom_49
def rmX1_copyFrom_1_8 : Room := { frames := 1, cells := 0, slots := 0, locals := 100 }
theorem mX1_copyFrom_1_8 {l : Launch} {E : ps_E} {σ : ps_S}  {r : ps_S}  (h : fX1_copyFrom_1_8 σ = some r) : ps_MV l yX1_copyFrom (ps_wm yX1_copyFrom cX1_copyFrom 3 none) rmX1_copyFrom_1_8 [.ref (e_ad E 1), .ref (e_ad E 8)] E σ r :=
  ps_metV yX1_copyFrom rmX1_copyFrom_1_8 3 (own := "PartSums$Ground")  (by decide +kernel) rfl (Nat.le_of_ble_eq_true rfl) rfl (fun z e1 e2 e3 e4 e5 C k => by
    subst e5
    exact tX1_copyFrom_1_8 C (ps_Zof e1 e3 e4)  h k)
def pX1_copyFrom_1_15_S18 (z : ps_X)  (s : Int32 × ps_S) : Prop := ps_at z 3 18 [(0, .ref (z_ad z 1)), (1, .ref (z_ad z 15)), (2, .int s.1)] [] s.2
def qX1_copyFrom_1_15_S18 (z : ps_X)  (x : (ps_S)) : Prop := match x with | y => ps_at z 3 49 [] [] y
def fX1_copyFrom_1_15_S18  (a2 : Int32) (σ : ps_S) : Option ((Int32 × ps_S) ⊕ ((ps_S))) :=
  (if (5 : Int32) ≤ a2 then some (.inr σ)
  else (ps_ck a2 5 ((ps_ck a2 5 ((ps_cc (0 : Int32) (0 : Int32) (256 : Int32) 256 256 (ps_let (ps_ur σ (2 + 1 + (Int32.toNatClampNeg a2)) (va_cpy (σ.1 (16 + 1 + (Int32.toNatClampNeg a2))) (σ.1 (2 + 1 + (Int32.toNatClampNeg a2))) (Int32.toNatClampNeg (0 : Int32)) (Int32.toNatClampNeg (0 : Int32)) (Int32.toNatClampNeg (256 : Int32)))) fun σ6 =>
  (ps_let (a2 + (1 : Int32)) fun x7 =>
  some (.inl (x7, σ6))))))))))
set_option maxHeartbeats 4000000 in
set_option maxRecDepth 100000 in
theorem tX1_copyFrom_1_15_S18 {z : ps_X} (C : ps_C z cX1_copyFrom 3 "PartSums$Ground") (Z : ps_Z z 1 100)   (s : Int32 × ps_S) (r : (Int32 × ps_S) ⊕ ((ps_S))) (h : fX1_copyFrom_1_15_S18  s.1 s.2 = some r) (k : ps_k (pX1_copyFrom_1_15_S18 z ) (qX1_copyFrom_1_15_S18 z ) r) : pX1_copyFrom_1_15_S18 z  s := by
  obtain ⟨a2, σ⟩ := s
  unfold fX1_copyFrom_1_15_S18 at h
  unfold pX1_copyFrom_1_15_S18
  refine ps_iload_n C (pc := 18) dX1_copyFrom_18 2 rfl ?_
  refine ps_iconst C (pc := 19) (v := 5) dX1_copyFrom_19 (by decide) ?_
  refine ps_icmp_ge C (pc := 20) 49 dX1_copyFrom_20 (by decide) (fun hc => ?_) (fun hc => ?_)
  · have h := ps_ift hc h
    obtain rfl := Option.some.inj h
    exact ps_sub [] rfl k
  · have h := ps_iff hc h
    refine ps_aload_n C (pc := 23) dX1_copyFrom_23 1 rfl ?_
    refine pg_15_3 C (pc := 24) tw_104 dX1_copyFrom_24 ?_
    refine ps_iload_n C (pc := 27) dX1_copyFrom_27 2 rfl ?_
    obtain ⟨hi3, h⟩ := ps_ck_s h
    refine ps_aald C (pc := 28) 16 rfl rfl hi3 dX1_copyFrom_28 ?_
    refine ps_iconst C (pc := 29) (v := 0) dX1_copyFrom_29 (by decide) ?_
    refine ps_aload_n C (pc := 30) dX1_copyFrom_30 0 rfl ?_
    refine pg_1_3 C (pc := 31) tw_104 dX1_copyFrom_31 ?_
    refine ps_iload_n C (pc := 34) dX1_copyFrom_34 2 rfl ?_
    obtain ⟨hi4, h⟩ := ps_ck_s h
    refine ps_aald C (pc := 35) 2 rfl rfl hi4 dX1_copyFrom_35 ?_
    refine ps_iconst C (pc := 36) (v := 0) dX1_copyFrom_36 (by decide) ?_
    refine ps_sipush C (pc := 37) (v := 256) dX1_copyFrom_37 (by decide) ?_
    obtain ⟨hi5, h⟩ := ps_cc_s h
    refine ps_copyZ C Z (pc := 40) (16 + 1 + (Int32.toNatClampNeg a2)) (2 + 1 + (Int32.toNatClampNeg a2)) (ps_rw16 hi3).1 (ps_rw2 hi4).1 (ps_rw16 hi3).2 (ps_rw2 hi4).2 hi5 tw_371 tw_373 tw_372 tw_77 (by decide) (Nat.le_of_ble_eq_true rfl) dX1_copyFrom_40 h (fun σ6 h => ?_)
    refine ps_iincL C (pc := 43) (zz := 1) (lw := fun x7 => [(2, .int x7), (0, .ref (z_ad z 1)), (1, .ref (z_ad z 15))]) dX1_copyFrom_43 2 rfl (by decide) (by decide) (fun _ => rfl) h (fun x7 h => ?_)
    refine ps_goto C (pc := 46) 18 dX1_copyFrom_46 (by decide) ?_
    obtain rfl := Option.some.inj h
    exact ps_sub [1, 2, 0] rfl k
def fX1_copyFrom_1_15 (σ : ps_S) : Option (ps_S) :=
  (ps_let (ps_ui σ 1 0 (σ.1 15 0)) fun σ1 =>
  (ps_let (ps_ul σ1 1 1 (σ1.2 15 1)) fun σ2 =>
  ((ps_lp (fun s => fX1_copyFrom_1_15_S18  s.1 s.2) 100000 ((0 : Int32), σ2)).bind fun e8 =>
  some e8)))
set_option maxHeartbeats 4000000 in
set_option maxRecDepth 100000 in
theorem tX1_copyFrom_1_15 {z : ps_X} (C : ps_C z cX1_copyFrom 3 "PartSums$Ground") (Z : ps_Z z 1 100) {σ : ps_S}  {r : ps_S} (h : fX1_copyFrom_1_15 σ = some r) (k : ps_KV z 3 cX1_copyFrom r) : ps_at z 3 0 [(0, .ref (z_ad z 1)), (1, .ref (z_ad z 15))] [] σ := by
  unfold fX1_copyFrom_1_15 at h
  refine ps_aload_n C (pc := 0) dX1_copyFrom_0 0 rfl ?_
  refine ps_aload_n C (pc := 1) dX1_copyFrom_1 1 rfl ?_
  refine pg_15_0 C (pc := 2) tw_99 dX1_copyFrom_2 ?_
  refine pp_1_0 C (pc := 5) tw_99 dX1_copyFrom_5 h (fun σ1 h => ?_)
  refine ps_aload_n C (pc := 8) dX1_copyFrom_8 0 rfl ?_
  refine ps_aload_n C (pc := 9) dX1_copyFrom_9 1 rfl ?_
  refine pg_15_1 C (pc := 10) tw_101 dX1_copyFrom_10 ?_
  refine pp_1_1 C (pc := 13) tw_101 dX1_copyFrom_13 h (fun σ2 h => ?_)
  refine ps_iconst C (pc := 16) (v := 0) dX1_copyFrom_16 (by decide) ?_
  refine ps_istore_n C (pc := 17) (lv' := [(2, .int (0 : Int32)), (0, .ref (z_ad z 1)), (1, .ref (z_ad z 15))]) dX1_copyFrom_17 (by decide) rfl ?_
  obtain ⟨e8, he8, h⟩ := ps_bd h
  refine ps_sub [1, 2, 0] rfl ?_
  refine ps_loop (P := pX1_copyFrom_1_15_S18 z ) (K := qX1_copyFrom_1_15_S18 z ) (fun s r h k => tX1_copyFrom_1_15_S18 C Z   s r h k) _ _ _ he8 ?_
  unfold qX1_copyFrom_1_15_S18
  obtain rfl := Option.some.inj h
  exact k _ _ dX1_copyFrom_49
def rmX1_copyFrom_1_15 : Room := { frames := 1, cells := 0, slots := 0, locals := 100 }
theorem mX1_copyFrom_1_15 {l : Launch} {E : ps_E} {σ : ps_S}  {r : ps_S}  (h : fX1_copyFrom_1_15 σ = some r) : ps_MV l yX1_copyFrom (ps_wm yX1_copyFrom cX1_copyFrom 3 none) rmX1_copyFrom_1_15 [.ref (e_ad E 1), .ref (e_ad E 15)] E σ r :=
  ps_metV yX1_copyFrom rmX1_copyFrom_1_15 3 (own := "PartSums$Ground")  (by decide +kernel) rfl (Nat.le_of_ble_eq_true rfl) rfl (fun z e1 e2 e3 e4 e5 C k => by
    subst e5
    exact tX1_copyFrom_1_15 C (ps_Zof e1 e3 e4)  h k)
def fX0_forget (σ : ps_S) : Option (ps_S) :=
  (ps_let (ps_ui σ 22 0 (0 : Int32)) fun σ1 =>
  some σ1)
set_option maxHeartbeats 4000000 in
set_option maxRecDepth 100000 in
theorem tX0_forget {z : ps_X} (C : ps_C z cX0_forget 1 "PartSums$Acts") (Z : ps_Z z 0 0) {σ : ps_S}  {r : ps_S} (h : fX0_forget σ = some r) (k : ps_KV z 1 cX0_forget r) : ps_at z 1 0 [(0, .ref (z_ad z 22))] [] σ := by
  unfold fX0_forget at h
  refine ps_aload_n C (pc := 0) dX0_forget_0 0 rfl ?_
  refine ps_iconst C (pc := 1) (v := 0) dX0_forget_1 (by decide) ?_
  refine pp_22_0 C (pc := 2) tw_124 dX0_forget_2 h (fun σ1 h => ?_)
  obtain rfl := Option.some.inj h
  exact k _ _ dX0_forget_5
def rmX0_forget : Room := { frames := 0, cells := 0, slots := 0, locals := 0 }
theorem mX0_forget {l : Launch} {E : ps_E} {σ : ps_S}  {r : ps_S}  (h : fX0_forget σ = some r) : ps_MV l yX0_forget (ps_wm yX0_forget cX0_forget 1 none) rmX0_forget [.ref (e_ad E 22)] E σ r :=
  ps_metV yX0_forget rmX0_forget 1 (own := "PartSums$Acts")  (by decide +kernel) rfl (Nat.le_of_ble_eq_true rfl) rfl (fun z e1 e2 e3 e4 e5 C k => by
    subst e5
    exact tX0_forget C (ps_Zof e1 e3 e4)  h k)
theorem hdX0_forget : yX0_forget.cls ≠ "java/lang/invoke/MethodHandle" ∧ yX0_forget.cls ≠ "java/lang/invoke/VarHandle" ∧ (parseMethodDescriptor yX0_forget.desc).map (fun d => d.parameters.length) = some 0 := by decide +kernel
def fX0_goOn (a1 : Int32) (σ : ps_S) : Option (ps_S) :=
  (ps_ck (σ.1 22 1) 8 ((ps_let (ps_ui σ 23 (Int32.toNatClampNeg (σ.1 22 1)) a1) fun σ2 =>
  (ps_let (ps_ui σ2 22 1 (((σ2.1 22 1) + (1 : Int32)) - ((σ2.1 22 1) + (1 : Int32)) / (8 : Int32) * (8 : Int32))) fun σ3 =>
  (ps_let (ps_ui σ3 22 0 (if (8 : Int32) < ((σ3.1 22 0) + (1 : Int32)) then (8 : Int32) else ((σ3.1 22 0) + (1 : Int32)))) fun σ4 =>
  some σ4)))))
set_option maxHeartbeats 4000000 in
set_option maxRecDepth 100000 in
theorem tX0_goOn {z : ps_X} (C : ps_C z cX0_goOn 2 "PartSums$Acts") (Z : ps_Z z 1 100) {a1 : Int32} {σ : ps_S}  {r : ps_S} (h : fX0_goOn a1 σ = some r) (k : ps_KV z 2 cX0_goOn r) : ps_at z 2 0 [(0, .ref (z_ad z 22)), (1, .int a1)] [] σ := by
  unfold fX0_goOn at h
  refine ps_aload_n C (pc := 0) dX0_goOn_0 0 rfl ?_
  refine pg_22_2 C (pc := 1) tw_127 dX0_goOn_1 ?_
  refine ps_aload_n C (pc := 4) dX0_goOn_4 0 rfl ?_
  refine pg_22_1 C (pc := 5) tw_126 dX0_goOn_5 ?_
  refine ps_iload_n C (pc := 8) dX0_goOn_8 1 rfl ?_
  obtain ⟨hi1, h⟩ := ps_ck_s h
  refine ps_iastL C (pc := 9) 23 rfl rfl hi1 dX0_goOn_9 h (fun σ2 h => ?_)
  refine ps_aload_n C (pc := 10) dX0_goOn_10 0 rfl ?_
  refine ps_aload_n C (pc := 11) dX0_goOn_11 0 rfl ?_
  refine pg_22_1 C (pc := 12) tw_126 dX0_goOn_12 ?_
  refine ps_iconst C (pc := 15) (v := 1) dX0_goOn_15 (by decide) ?_
  refine ps_iadd C (pc := 16) dX0_goOn_16 ?_
  refine ps_bipush C (pc := 17) (v := 8) dX0_goOn_17 (by decide) ?_
  refine ps_irem C (pc := 19) dX0_goOn_19 (by decide) ?_
  refine pp_22_1 C (pc := 20) tw_126 dX0_goOn_20 h (fun σ3 h => ?_)
  refine ps_aload_n C (pc := 23) dX0_goOn_23 0 rfl ?_
  refine ps_aload_n C (pc := 24) dX0_goOn_24 0 rfl ?_
  refine pg_22_0 C (pc := 25) tw_124 dX0_goOn_25 ?_
  refine ps_iconst C (pc := 28) (v := 1) dX0_goOn_28 (by decide) ?_
  refine ps_iadd C (pc := 29) dX0_goOn_29 ?_
  refine ps_bipush C (pc := 30) (v := 8) dX0_goOn_30 (by decide) ?_
  refine ps_minZ C Z (pc := 32) tw_445 tw_267 tw_71 tw_268 (by decide) (Nat.le_of_ble_eq_true rfl) dX0_goOn_32 ?_
  refine pp_22_0 C (pc := 35) tw_124 dX0_goOn_35 h (fun σ4 h => ?_)
  obtain rfl := Option.some.inj h
  exact k _ _ dX0_goOn_38
def rmX0_goOn : Room := { frames := 1, cells := 0, slots := 0, locals := 100 }
theorem mX0_goOn {l : Launch} {E : ps_E} {σ : ps_S} {a1 : Int32} {r : ps_S}  (h : fX0_goOn a1 σ = some r) : ps_MV l yX0_goOn (ps_wm yX0_goOn cX0_goOn 2 none) rmX0_goOn [.ref (e_ad E 22), .int a1] E σ r :=
  ps_metV yX0_goOn rmX0_goOn 2 (own := "PartSums$Acts")  (by decide +kernel) rfl (Nat.le_of_ble_eq_true rfl) rfl (fun z e1 e2 e3 e4 e5 C k => by
    subst e5
    exact tX0_goOn C (ps_Zof e1 e3 e4)  h k)
theorem hdX0_goOn : yX0_goOn.cls ≠ "java/lang/invoke/MethodHandle" ∧ yX0_goOn.cls ≠ "java/lang/invoke/VarHandle" ∧ (parseMethodDescriptor yX0_goOn.desc).map (fun d => d.parameters.length) = some 1 := by decide +kernel
def fX0_keepLine (a2 : Int32) (σ : ps_S) : Option (ps_S) :=
  (ps_ck a2 5 ((ps_ck (σ.1 22 1) 8 ((ps_cc (0 : Int32) (0 : Int32) (256 : Int32) 256 256 (ps_let (ps_ur σ (24 + 1 + (Int32.toNatClampNeg (σ.1 22 1))) (va_cpy (σ.1 (2 + 1 + (Int32.toNatClampNeg a2))) (σ.1 (24 + 1 + (Int32.toNatClampNeg (σ.1 22 1)))) (Int32.toNatClampNeg (0 : Int32)) (Int32.toNatClampNeg (0 : Int32)) (Int32.toNatClampNeg (256 : Int32)))) fun σ4 =>
  (ps_ck (σ4.1 22 1) 8 ((ps_let (ps_ul σ4 33 (Int32.toNatClampNeg (σ4.1 22 1)) (σ4.2 1 1)) fun σ6 =>
  ((fX0_goOn a2 σ6).bind fun q7 =>
  some q7))))))))))
set_option maxHeartbeats 4000000 in
set_option maxRecDepth 100000 in
theorem tX0_keepLine {z : ps_X} (C : ps_C z cX0_keepLine 3 "PartSums$Acts") (Z : ps_Z z 2 121) {a2 : Int32} {σ : ps_S}  {r : ps_S} (h : fX0_keepLine a2 σ = some r) (k : ps_KV z 3 cX0_keepLine r) : ps_at z 3 0 [(0, .ref (z_ad z 22)), (1, .ref (z_ad z 1)), (2, .int a2)] [] σ := by
  unfold fX0_keepLine at h
  refine ps_aload_n C (pc := 0) dX0_keepLine_0 1 rfl ?_
  refine pg_1_3 C (pc := 1) tw_105 dX0_keepLine_1 ?_
  refine ps_iload_n C (pc := 4) dX0_keepLine_4 2 rfl ?_
  obtain ⟨hi1, h⟩ := ps_ck_s h
  refine ps_aald C (pc := 5) 2 rfl rfl hi1 dX0_keepLine_5 ?_
  refine ps_iconst C (pc := 6) (v := 0) dX0_keepLine_6 (by decide) ?_
  refine ps_aload_n C (pc := 7) dX0_keepLine_7 0 rfl ?_
  refine pg_22_3 C (pc := 8) tw_128 dX0_keepLine_8 ?_
  refine ps_aload_n C (pc := 11) dX0_keepLine_11 0 rfl ?_
  refine pg_22_1 C (pc := 12) tw_126 dX0_keepLine_12 ?_
  obtain ⟨hi2, h⟩ := ps_ck_s h
  refine ps_aald C (pc := 15) 24 rfl rfl hi2 dX0_keepLine_15 ?_
  refine ps_iconst C (pc := 16) (v := 0) dX0_keepLine_16 (by decide) ?_
  refine ps_sipush C (pc := 17) (v := 256) dX0_keepLine_17 (by decide) ?_
  obtain ⟨hi3, h⟩ := ps_cc_s h
  refine ps_copyZ C Z (pc := 20) (2 + 1 + (Int32.toNatClampNeg a2)) (24 + 1 + (Int32.toNatClampNeg (σ.1 22 1))) (ps_rw2 hi1).1 (ps_rw24 hi2).1 (ps_rw2 hi1).2 (ps_rw24 hi2).2 hi3 tw_440 tw_373 tw_372 tw_77 (by decide) (Nat.le_of_ble_eq_true rfl) dX0_keepLine_20 h (fun σ4 h => ?_)
  refine ps_aload_n C (pc := 23) dX0_keepLine_23 0 rfl ?_
  refine pg_22_4 C (pc := 24) tw_129 dX0_keepLine_24 ?_
  refine ps_aload_n C (pc := 27) dX0_keepLine_27 0 rfl ?_
  refine pg_22_1 C (pc := 28) tw_126 dX0_keepLine_28 ?_
  refine ps_aload_n C (pc := 31) dX0_keepLine_31 1 rfl ?_
  refine pg_1_1 C (pc := 32) tw_102 dX0_keepLine_32 ?_
  obtain ⟨hi5, h⟩ := ps_ck_s h
  refine ps_lastL C (pc := 35) 33 rfl rfl hi5 dX0_keepLine_35 h (fun σ6 h => ?_)
  refine ps_aload_n C (pc := 36) dX0_keepLine_36 0 rfl ?_
  refine ps_iload_n C (pc := 37) dX0_keepLine_37 2 rfl ?_
  obtain ⟨q7, hq7, h⟩ := ps_bd h
  refine ps_callVV C Z (pc := 38) (As := [.int a2]) (k0 := 22) (mX0_goOn  hq7) (Cn := "PartSums$Acts") rfl tw_441 tw_443 tw_10 tw_67 tw_444 hdX0_goOn rfl rfl ⟨by decide, by decide⟩ (by decide) ps_o22 rfl rfl (Nat.le_of_ble_eq_true rfl) dX0_keepLine_38 rfl ?_
  obtain rfl := Option.some.inj h
  exact k _ _ dX0_keepLine_41
def rmX0_keepLine : Room := { frames := 2, cells := 0, slots := 0, locals := 121 }
theorem mX0_keepLine {l : Launch} {E : ps_E} {σ : ps_S} {a2 : Int32} {r : ps_S}  (h : fX0_keepLine a2 σ = some r) : ps_MV l yX0_keepLine (ps_wm yX0_keepLine cX0_keepLine 3 none) rmX0_keepLine [.ref (e_ad E 22), .ref (e_ad E 1), .int a2] E σ r :=
  ps_metV yX0_keepLine rmX0_keepLine 3 (own := "PartSums$Acts")  (by decide +kernel) rfl (Nat.le_of_ble_eq_true rfl) rfl (fun z e1 e2 e3 e4 e5 C k => by
    subst e5
    exact tX0_keepLine C (ps_Zof e1 e3 e4)  h k)
theorem hdX0_keepLine : yX0_keepLine.cls ≠ "java/lang/invoke/MethodHandle" ∧ yX0_keepLine.cls ≠ "java/lang/invoke/VarHandle" ∧ (parseMethodDescriptor yX0_keepLine.desc).map (fun d => d.parameters.length) = some 2 := by decide +kernel
def fX0_keepNames (a1 : Int32) (a2 : Int32) (σ : ps_S) : Option (ps_S) :=
  (ps_ck (σ.1 22 1) 8 ((ps_let (ps_ui σ 34 (Int32.toNatClampNeg (σ.1 22 1)) a1) fun σ2 =>
  (ps_ck (σ2.1 22 1) 8 ((ps_let (ps_ui σ2 35 (Int32.toNatClampNeg (σ2.1 22 1)) a2) fun σ4 =>
  ((fX0_goOn (5 : Int32) σ4).bind fun q5 =>
  some q5)))))))
set_option maxHeartbeats 4000000 in
set_option maxRecDepth 100000 in
theorem tX0_keepNames {z : ps_X} (C : ps_C z cX0_keepNames 3 "PartSums$Acts") (Z : ps_Z z 2 121) {a1 : Int32} {a2 : Int32} {σ : ps_S}  {r : ps_S} (h : fX0_keepNames a1 a2 σ = some r) (k : ps_KV z 3 cX0_keepNames r) : ps_at z 3 0 [(0, .ref (z_ad z 22)), (1, .int a1), (2, .int a2)] [] σ := by
  unfold fX0_keepNames at h
  refine ps_aload_n C (pc := 0) dX0_keepNames_0 0 rfl ?_
  refine pg_22_5 C (pc := 1) tw_130 dX0_keepNames_1 ?_
  refine ps_aload_n C (pc := 4) dX0_keepNames_4 0 rfl ?_
  refine pg_22_1 C (pc := 5) tw_126 dX0_keepNames_5 ?_
  refine ps_iload_n C (pc := 8) dX0_keepNames_8 1 rfl ?_
  obtain ⟨hi1, h⟩ := ps_ck_s h
  refine ps_iastL C (pc := 9) 34 rfl rfl hi1 dX0_keepNames_9 h (fun σ2 h => ?_)
  refine ps_aload_n C (pc := 10) dX0_keepNames_10 0 rfl ?_
  refine pg_22_6 C (pc := 11) tw_131 dX0_keepNames_11 ?_
  refine ps_aload_n C (pc := 14) dX0_keepNames_14 0 rfl ?_
  refine pg_22_1 C (pc := 15) tw_126 dX0_keepNames_15 ?_
  refine ps_iload_n C (pc := 18) dX0_keepNames_18 2 rfl ?_
  obtain ⟨hi3, h⟩ := ps_ck_s h
  refine ps_iastL C (pc := 19) 35 rfl rfl hi3 dX0_keepNames_19 h (fun σ4 h => ?_)
  refine ps_aload_n C (pc := 20) dX0_keepNames_20 0 rfl ?_
  refine ps_iconst C (pc := 21) (v := 5) dX0_keepNames_21 (by decide) ?_
  obtain ⟨q5, hq5, h⟩ := ps_bd h
  refine ps_callVV C Z (pc := 22) (As := [.int (5 : Int32)]) (k0 := 22) (mX0_goOn  hq5) (Cn := "PartSums$Acts") rfl tw_441 tw_443 tw_10 tw_67 tw_444 hdX0_goOn rfl rfl ⟨by decide, by decide⟩ (by decide) ps_o22 rfl rfl (Nat.le_of_ble_eq_true rfl) dX0_keepNames_22 rfl ?_
  obtain rfl := Option.some.inj h
  exact k _ _ dX0_keepNames_25
def rmX0_keepNames : Room := { frames := 2, cells := 0, slots := 0, locals := 121 }
theorem mX0_keepNames {l : Launch} {E : ps_E} {σ : ps_S} {a1 : Int32} {a2 : Int32} {r : ps_S}  (h : fX0_keepNames a1 a2 σ = some r) : ps_MV l yX0_keepNames (ps_wm yX0_keepNames cX0_keepNames 3 none) rmX0_keepNames [.ref (e_ad E 22), .int a1, .int a2] E σ r :=
  ps_metV yX0_keepNames rmX0_keepNames 3 (own := "PartSums$Acts")  (by decide +kernel) rfl (Nat.le_of_ble_eq_true rfl) rfl (fun z e1 e2 e3 e4 e5 C k => by
    subst e5
    exact tX0_keepNames C (ps_Zof e1 e3 e4)  h k)
theorem hdX0_keepNames : yX0_keepNames.cls ≠ "java/lang/invoke/MethodHandle" ∧ yX0_keepNames.cls ≠ "java/lang/invoke/VarHandle" ∧ (parseMethodDescriptor yX0_keepNames.desc).map (fun d => d.parameters.length) = some 2 := by decide +kernel
def fX0_takeBack (σ : ps_S) : Option (ps_S) :=
  (ps_let (ps_ui σ 22 0 ((σ.1 22 0) - (1 : Int32))) fun σ1 =>
  (ps_let (ps_ui σ1 22 1 ((((σ1.1 22 1) + (8 : Int32)) - (1 : Int32)) - (((σ1.1 22 1) + (8 : Int32)) - (1 : Int32)) / (8 : Int32) * (8 : Int32))) fun σ2 =>
  (ps_ck (σ2.1 22 1) 8 ((if (σ2.1 23 (Int32.toNatClampNeg (σ2.1 22 1))) = (5 : Int32) then (ps_ck (σ2.1 22 1) 8 ((ps_ck (σ2.1 22 1) 8 (((fX1_swapNames (σ2.1 34 (Int32.toNatClampNeg (σ2.1 22 1))) (σ2.1 35 (Int32.toNatClampNeg (σ2.1 22 1))) σ2).bind fun q13 =>
  some q13)))))
  else (ps_ck (σ2.1 22 1) 8 ((ps_ck (σ2.1 22 1) 8 ((ps_ck (σ2.1 23 (Int32.toNatClampNeg (σ2.1 22 1))) 5 ((ps_cc (0 : Int32) (0 : Int32) (256 : Int32) 256 256 (ps_let (ps_ur σ2 (2 + 1 + (Int32.toNatClampNeg (σ2.1 23 (Int32.toNatClampNeg (σ2.1 22 1))))) (va_cpy (σ2.1 (24 + 1 + (Int32.toNatClampNeg (σ2.1 22 1)))) (σ2.1 (2 + 1 + (Int32.toNatClampNeg (σ2.1 23 (Int32.toNatClampNeg (σ2.1 22 1)))))) (Int32.toNatClampNeg (0 : Int32)) (Int32.toNatClampNeg (0 : Int32)) (Int32.toNatClampNeg (256 : Int32)))) fun σ8 =>
  (ps_ck (σ8.1 22 1) 8 ((ps_let (ps_ul σ8 1 1 (σ8.2 33 (Int32.toNatClampNeg (σ8.1 22 1)))) fun σ10 =>
  some σ10))))))))))))))))
set_option maxHeartbeats 4000000 in
set_option maxRecDepth 100000 in
theorem tX0_takeBack {z : ps_X} (C : ps_C z cX0_takeBack 2 "PartSums$Acts") (Z : ps_Z z 3 100) {σ : ps_S}  {r : ps_S} (h : fX0_takeBack σ = some r) (k : ps_KV z 2 cX0_takeBack r) : ps_at z 2 0 [(0, .ref (z_ad z 22)), (1, .ref (z_ad z 1))] [] σ := by
  unfold fX0_takeBack at h
  refine ps_aload_n C (pc := 0) dX0_takeBack_0 0 rfl ?_
  refine ps_dup C (pc := 1) dX0_takeBack_1 rfl ?_
  refine pg_22_0 C (pc := 2) tw_124 dX0_takeBack_2 ?_
  refine ps_iconst C (pc := 5) (v := 1) dX0_takeBack_5 (by decide) ?_
  refine ps_isub C (pc := 6) dX0_takeBack_6 ?_
  refine pp_22_0 C (pc := 7) tw_124 dX0_takeBack_7 h (fun σ1 h => ?_)
  refine ps_aload_n C (pc := 10) dX0_takeBack_10 0 rfl ?_
  refine ps_aload_n C (pc := 11) dX0_takeBack_11 0 rfl ?_
  refine pg_22_1 C (pc := 12) tw_126 dX0_takeBack_12 ?_
  refine ps_bipush C (pc := 15) (v := 8) dX0_takeBack_15 (by decide) ?_
  refine ps_iadd C (pc := 17) dX0_takeBack_17 ?_
  refine ps_iconst C (pc := 18) (v := 1) dX0_takeBack_18 (by decide) ?_
  refine ps_isub C (pc := 19) dX0_takeBack_19 ?_
  refine ps_bipush C (pc := 20) (v := 8) dX0_takeBack_20 (by decide) ?_
  refine ps_irem C (pc := 22) dX0_takeBack_22 (by decide) ?_
  refine pp_22_1 C (pc := 23) tw_126 dX0_takeBack_23 h (fun σ2 h => ?_)
  refine ps_aload_n C (pc := 26) dX0_takeBack_26 0 rfl ?_
  refine pg_22_2 C (pc := 27) tw_127 dX0_takeBack_27 ?_
  refine ps_aload_n C (pc := 30) dX0_takeBack_30 0 rfl ?_
  refine pg_22_1 C (pc := 31) tw_126 dX0_takeBack_31 ?_
  obtain ⟨hi3, h⟩ := ps_ck_s h
  refine ps_iald C (pc := 34) 23 rfl rfl hi3 dX0_takeBack_34 ?_
  refine ps_iconst C (pc := 35) (v := 5) dX0_takeBack_35 (by decide) ?_
  refine ps_icmp_ne C (pc := 36) 62 dX0_takeBack_36 (by decide) (fun hc => ?_) (fun hc => ?_)
  · have h := ps_iff hc h
    refine ps_aload_n C (pc := 62) dX0_takeBack_62 0 rfl ?_
    refine pg_22_3 C (pc := 63) tw_128 dX0_takeBack_63 ?_
    refine ps_aload_n C (pc := 66) dX0_takeBack_66 0 rfl ?_
    refine pg_22_1 C (pc := 67) tw_126 dX0_takeBack_67 ?_
    obtain ⟨hi4, h⟩ := ps_ck_s h
    refine ps_aald C (pc := 70) 24 rfl rfl hi4 dX0_takeBack_70 ?_
    refine ps_iconst C (pc := 71) (v := 0) dX0_takeBack_71 (by decide) ?_
    refine ps_aload_n C (pc := 72) dX0_takeBack_72 1 rfl ?_
    refine pg_1_3 C (pc := 73) tw_105 dX0_takeBack_73 ?_
    refine ps_aload_n C (pc := 76) dX0_takeBack_76 0 rfl ?_
    refine pg_22_2 C (pc := 77) tw_127 dX0_takeBack_77 ?_
    refine ps_aload_n C (pc := 80) dX0_takeBack_80 0 rfl ?_
    refine pg_22_1 C (pc := 81) tw_126 dX0_takeBack_81 ?_
    obtain ⟨hi5, h⟩ := ps_ck_s h
    refine ps_iald C (pc := 84) 23 rfl rfl hi5 dX0_takeBack_84 ?_
    obtain ⟨hi6, h⟩ := ps_ck_s h
    refine ps_aald C (pc := 85) 2 rfl rfl hi6 dX0_takeBack_85 ?_
    refine ps_iconst C (pc := 86) (v := 0) dX0_takeBack_86 (by decide) ?_
    refine ps_sipush C (pc := 87) (v := 256) dX0_takeBack_87 (by decide) ?_
    obtain ⟨hi7, h⟩ := ps_cc_s h
    refine ps_copyZ C Z (pc := 90) (24 + 1 + (Int32.toNatClampNeg (σ2.1 22 1))) (2 + 1 + (Int32.toNatClampNeg (σ2.1 23 (Int32.toNatClampNeg (σ2.1 22 1))))) (ps_rw24 hi4).1 (ps_rw2 hi6).1 (ps_rw24 hi4).2 (ps_rw2 hi6).2 hi7 tw_440 tw_373 tw_372 tw_77 (by decide) (Nat.le_of_ble_eq_true rfl) dX0_takeBack_90 h (fun σ8 h => ?_)
    refine ps_aload_n C (pc := 93) dX0_takeBack_93 1 rfl ?_
    refine ps_aload_n C (pc := 94) dX0_takeBack_94 0 rfl ?_
    refine pg_22_4 C (pc := 95) tw_129 dX0_takeBack_95 ?_
    refine ps_aload_n C (pc := 98) dX0_takeBack_98 0 rfl ?_
    refine pg_22_1 C (pc := 99) tw_126 dX0_takeBack_99 ?_
    obtain ⟨hi9, h⟩ := ps_ck_s h
    refine ps_lald C (pc := 102) 33 rfl rfl hi9 dX0_takeBack_102 ?_
    refine pp_1_1 C (pc := 103) tw_102 dX0_takeBack_103 h (fun σ10 h => ?_)
    obtain rfl := Option.some.inj h
    exact k _ _ dX0_takeBack_106
  · have h := ps_ift hc h
    refine ps_aload_n C (pc := 39) dX0_takeBack_39 1 rfl ?_
    refine ps_aload_n C (pc := 40) dX0_takeBack_40 0 rfl ?_
    refine pg_22_5 C (pc := 41) tw_130 dX0_takeBack_41 ?_
    refine ps_aload_n C (pc := 44) dX0_takeBack_44 0 rfl ?_
    refine pg_22_1 C (pc := 45) tw_126 dX0_takeBack_45 ?_
    obtain ⟨hi11, h⟩ := ps_ck_s h
    refine ps_iald C (pc := 48) 34 rfl rfl hi11 dX0_takeBack_48 ?_
    refine ps_aload_n C (pc := 49) dX0_takeBack_49 0 rfl ?_
    refine pg_22_6 C (pc := 50) tw_131 dX0_takeBack_50 ?_
    refine ps_aload_n C (pc := 53) dX0_takeBack_53 0 rfl ?_
    refine pg_22_1 C (pc := 54) tw_126 dX0_takeBack_54 ?_
    obtain ⟨hi12, h⟩ := ps_ck_s h
    refine ps_iald C (pc := 57) 35 rfl rfl hi12 dX0_takeBack_57 ?_
    obtain ⟨q13, hq13, h⟩ := ps_bd h
    refine ps_callVV C Z (pc := 58) (As := [.int (σ2.1 34 (Int32.toNatClampNeg (σ2.1 22 1))), .int (σ2.1 35 (Int32.toNatClampNeg (σ2.1 22 1)))]) (k0 := 1) (mX1_swapNames  hq13) (Cn := "PartSums$Ground") rfl tw_680 tw_648 tw_649 tw_66 tw_650 hdX1_swapNames rfl rfl ⟨by decide, by decide⟩ (by decide) ps_o1 rfl rfl (Nat.le_of_ble_eq_true rfl) dX0_takeBack_58 rfl ?_
    obtain rfl := Option.some.inj h
    exact k _ _ dX0_takeBack_61
def rmX0_takeBack : Room := { frames := 3, cells := 0, slots := 0, locals := 100 }
theorem mX0_takeBack {l : Launch} {E : ps_E} {σ : ps_S}  {r : ps_S}  (h : fX0_takeBack σ = some r) : ps_MV l yX0_takeBack (ps_wm yX0_takeBack cX0_takeBack 2 none) rmX0_takeBack [.ref (e_ad E 22), .ref (e_ad E 1)] E σ r :=
  ps_metV yX0_takeBack rmX0_takeBack 2 (own := "PartSums$Acts")  (by decide +kernel) rfl (Nat.le_of_ble_eq_true rfl) rfl (fun z e1 e2 e3 e4 e5 C k => by
    subst e5
    exact tX0_takeBack C (ps_Zof e1 e3 e4)  h k)
theorem hdX0_takeBack : yX0_takeBack.cls ≠ "java/lang/invoke/MethodHandle" ∧ yX0_takeBack.cls ≠ "java/lang/invoke/VarHandle" ∧ (parseMethodDescriptor yX0_takeBack.desc).map (fun d => d.parameters.length) = some 1 := by decide +kernel
