def fX5_thrown (σ : ps_S) : Option (Int32) :=
  some (σ.1 45 0)
set_option maxHeartbeats 4000000 in
set_option maxRecDepth 100000 in
theorem tX5_thrown {z : ps_X} (C : ps_C z cX5_thrown 1 "PartSumsModel") (Z : ps_Z z 0 0) {σ : ps_S}  {r : Int32} (h : fX5_thrown σ = some r) (k : ps_KI z 1 cX5_thrown r σ) : ps_at z 1 0 [(0, .ref (z_ad z 45))] [] σ := by
  unfold fX5_thrown at h
  refine ps_aload_n C (pc := 0) dX5_thrown_0 0 rfl ?_
  refine pg_45_0 C (pc := 1) tw_796 dX5_thrown_1 ?_
  obtain rfl := Option.some.inj h
  exact k _ _ dX5_thrown_4
def rmX5_thrown : Room := { frames := 0, cells := 0, slots := 0, locals := 0 }
theorem mX5_thrown {l : Launch} {E : ps_E} {σ : ps_S}  {r : Int32}  (h : fX5_thrown σ = some r) : ps_MI l yX5_thrown (ps_wm yX5_thrown cX5_thrown 1 (some .int)) rmX5_thrown [.ref (e_ad E 45)] E σ r σ :=
  ps_metI yX5_thrown rmX5_thrown 1 (own := "PartSumsModel") r (by decide +kernel) rfl (Nat.le_of_ble_eq_true rfl) rfl (fun z e1 e2 e3 e4 e5 C k => by
    subst e5
    exact tX5_thrown C (ps_Zof e1 e3 e4)  h k)
theorem hdX5_thrown : yX5_thrown.cls ≠ "java/lang/invoke/MethodHandle" ∧ yX5_thrown.cls ≠ "java/lang/invoke/VarHandle" ∧ (parseMethodDescriptor yX5_thrown.desc).map (fun d => d.parameters.length) = some 0 := by decide +kernel
def fX5_refuse (σ : ps_S) : Option (Int32 × ps_S) :=
  (ps_let (ps_ui σ 45 0 (1 : Int32)) fun σ1 =>
  some ((0 : Int32), σ1))
set_option maxHeartbeats 4000000 in
set_option maxRecDepth 100000 in
theorem tX5_refuse {z : ps_X} (C : ps_C z cX5_refuse 1 "PartSumsModel") (Z : ps_Z z 0 0) {σ : ps_S}  {r : Int32 × ps_S} (h : fX5_refuse σ = some r) (k : ps_KI z 1 cX5_refuse r.1 r.2) : ps_at z 1 0 [(0, .ref (z_ad z 45))] [] σ := by
  unfold fX5_refuse at h
  refine ps_aload_n C (pc := 0) dX5_refuse_0 0 rfl ?_
  refine ps_iconst C (pc := 1) (v := 1) dX5_refuse_1 (by decide) ?_
  refine pp_45_0 C (pc := 2) tw_796 dX5_refuse_2 h (fun σ1 h => ?_)
  refine ps_iconst C (pc := 5) (v := 0) dX5_refuse_5 (by decide) ?_
  obtain rfl := Option.some.inj h
  exact k _ _ dX5_refuse_6
def rmX5_refuse : Room := { frames := 0, cells := 0, slots := 0, locals := 0 }
theorem mX5_refuse {l : Launch} {E : ps_E} {σ : ps_S}  {r : Int32 × ps_S}  (h : fX5_refuse σ = some r) : ps_MI l yX5_refuse (ps_wm yX5_refuse cX5_refuse 1 (some .int)) rmX5_refuse [.ref (e_ad E 45)] E σ r.1 r.2 :=
  ps_metI yX5_refuse rmX5_refuse 1 (own := "PartSumsModel") r.1 (by decide +kernel) rfl (Nat.le_of_ble_eq_true rfl) rfl (fun z e1 e2 e3 e4 e5 C k => by
    subst e5
    exact tX5_refuse C (ps_Zof e1 e3 e4)  h k)
theorem hdX5_refuse : yX5_refuse.cls ≠ "java/lang/invoke/MethodHandle" ∧ yX5_refuse.cls ≠ "java/lang/invoke/VarHandle" ∧ (parseMethodDescriptor yX5_refuse.desc).map (fun d => d.parameters.length) = some 0 := by decide +kernel
def fX5_isIn (a0 : Int32) (a1 : Int32) (a2 : Int32) : Option (Int32) :=
  (if a0 < a1 then some (0 : Int32)
  else (if a2 < a0 then some (0 : Int32)
  else some (1 : Int32)))
set_option maxHeartbeats 4000000 in
set_option maxRecDepth 100000 in
theorem tX5_isIn {z : ps_X} (C : ps_C z cX5_isIn 3 "PartSumsModel") (Z : ps_Z z 0 0) {a0 : Int32} {a1 : Int32} {a2 : Int32}  {σ : ps_S} {r : Int32} (h : fX5_isIn a0 a1 a2 = some r) (k : ps_KZ z 3 cX5_isIn r σ) : ps_at z 3 0 [(0, .int a0), (1, .int a1), (2, .int a2)] [] σ := by
  unfold fX5_isIn at h
  refine ps_iload_n C (pc := 0) dX5_isIn_0 0 rfl ?_
  refine ps_iload_n C (pc := 1) dX5_isIn_1 1 rfl ?_
  refine ps_icmp_lt C (pc := 2) 14 dX5_isIn_2 (by decide) (fun hc => ?_) (fun hc => ?_)
  · have h := ps_ift hc h
    refine ps_iconst C (pc := 14) (v := 0) dX5_isIn_14 (by decide) ?_
    obtain rfl := Option.some.inj h
    exact k _ _ (Or.inl rfl) dX5_isIn_15
  · have h := ps_iff hc h
    refine ps_iload_n C (pc := 5) dX5_isIn_5 0 rfl ?_
    refine ps_iload_n C (pc := 6) dX5_isIn_6 2 rfl ?_
    refine ps_icmp_gt C (pc := 7) 14 dX5_isIn_7 (by decide) (fun hc => ?_) (fun hc => ?_)
    · have h := ps_ift hc h
      refine ps_iconst C (pc := 14) (v := 0) dX5_isIn_14 (by decide) ?_
      obtain rfl := Option.some.inj h
      exact k _ _ (Or.inl rfl) dX5_isIn_15
    · have h := ps_iff hc h
      refine ps_iconst C (pc := 10) (v := 1) dX5_isIn_10 (by decide) ?_
      refine ps_goto C (pc := 11) 15 dX5_isIn_11 (by decide) ?_
      obtain rfl := Option.some.inj h
      exact k _ _ (Or.inr rfl) dX5_isIn_15
def rmX5_isIn : Room := { frames := 0, cells := 0, slots := 0, locals := 0 }
theorem mX5_isIn {l : Launch} {E : ps_E} {σ : ps_S} {a0 : Int32} {a1 : Int32} {a2 : Int32} {r : Int32}  (h : fX5_isIn a0 a1 a2 = some r) : ps_MI l yX5_isIn (ps_wm yX5_isIn cX5_isIn 3 (some .boolean)) rmX5_isIn [.int a0, .int a1, .int a2] E σ r σ :=
  ps_metZ yX5_isIn rmX5_isIn 3 (own := "PartSumsModel") r (by decide +kernel) rfl (Nat.le_of_ble_eq_true rfl) rfl (fun z e1 e2 e3 e4 e5 C k => by
    subst e5
    exact tX5_isIn C (ps_Zof e1 e3 e4)  h k)
theorem hdX5_isIn : yX5_isIn.cls ≠ "java/lang/invoke/MethodHandle" ∧ yX5_isIn.cls ≠ "java/lang/invoke/VarHandle" ∧ (parseMethodDescriptor yX5_isIn.desc).map (fun d => d.parameters.length) = some 3 := by decide +kernel
def fX5_has (a0 : Int32) (a1 : Int32) : Option (Int32) :=
  (if ((a0 >>> (a1 &&& 31)) &&& (1 : Int32)) = (1 : Int32) then some (1 : Int32)
  else some (0 : Int32))
set_option maxHeartbeats 4000000 in
set_option maxRecDepth 100000 in
theorem tX5_has {z : ps_X} (C : ps_C z cX5_has 2 "PartSumsModel") (Z : ps_Z z 0 0) {a0 : Int32} {a1 : Int32}  {σ : ps_S} {r : Int32} (h : fX5_has a0 a1 = some r) (k : ps_KZ z 2 cX5_has r σ) : ps_at z 2 0 [(0, .int a0), (1, .int a1)] [] σ := by
  unfold fX5_has at h
  refine ps_iload_n C (pc := 0) dX5_has_0 0 rfl ?_
  refine ps_iload_n C (pc := 1) dX5_has_1 1 rfl ?_
  refine ps_ishr C (pc := 2) dX5_has_2 ?_
  refine ps_iconst C (pc := 3) (v := 1) dX5_has_3 (by decide) ?_
  refine ps_iand C (pc := 4) dX5_has_4 ?_
  refine ps_iconst C (pc := 5) (v := 1) dX5_has_5 (by decide) ?_
  refine ps_icmp_ne C (pc := 6) 13 dX5_has_6 (by decide) (fun hc => ?_) (fun hc => ?_)
  · have h := ps_iff hc h
    refine ps_iconst C (pc := 13) (v := 0) dX5_has_13 (by decide) ?_
    obtain rfl := Option.some.inj h
    exact k _ _ (Or.inl rfl) dX5_has_14
  · have h := ps_ift hc h
    refine ps_iconst C (pc := 9) (v := 1) dX5_has_9 (by decide) ?_
    refine ps_goto C (pc := 10) 14 dX5_has_10 (by decide) ?_
    obtain rfl := Option.some.inj h
    exact k _ _ (Or.inr rfl) dX5_has_14
def rmX5_has : Room := { frames := 0, cells := 0, slots := 0, locals := 0 }
theorem mX5_has {l : Launch} {E : ps_E} {σ : ps_S} {a0 : Int32} {a1 : Int32} {r : Int32}  (h : fX5_has a0 a1 = some r) : ps_MI l yX5_has (ps_wm yX5_has cX5_has 2 (some .boolean)) rmX5_has [.int a0, .int a1] E σ r σ :=
  ps_metZ yX5_has rmX5_has 2 (own := "PartSumsModel") r (by decide +kernel) rfl (Nat.le_of_ble_eq_true rfl) rfl (fun z e1 e2 e3 e4 e5 C k => by
    subst e5
    exact tX5_has C (ps_Zof e1 e3 e4)  h k)
theorem hdX5_has : yX5_has.cls ≠ "java/lang/invoke/MethodHandle" ∧ yX5_has.cls ≠ "java/lang/invoke/VarHandle" ∧ (parseMethodDescriptor yX5_has.desc).map (fun d => d.parameters.length) = some 2 := by decide +kernel
def pX5_bits_S4 (z : ps_X)  (σ : ps_S) (s : Int32 × Int32) : Prop := ps_at z 3 4 [(1, .int s.1), (2, .int s.2)] [] σ
def qX5_bits_S4 (z : ps_X)  (σ : ps_S) (x : (Int32)) : Prop := match x with | y => ps_at z 3 20 [(1, .int y)] [] σ
def fX5_bits_S4  (a1 : Int32) (a2 : Int32) : Option ((Int32 × Int32) ⊕ ((Int32))) :=
  (if a2 = 0 then some (.inr a1)
  else (ps_let (a1 + (1 : Int32)) fun x1 =>
  (ps_let (a2 &&& (a2 - (1 : Int32))) fun x2 =>
  some (.inl (x1, x2)))))
set_option maxHeartbeats 4000000 in
set_option maxRecDepth 100000 in
theorem tX5_bits_S4 {z : ps_X} (C : ps_C z cX5_bits 3 "PartSumsModel") (Z : ps_Z z 0 0)   (σ : ps_S) (s : Int32 × Int32) (r : (Int32 × Int32) ⊕ ((Int32))) (h : fX5_bits_S4  s.1 s.2 = some r) (k : ps_k (pX5_bits_S4 z σ) (qX5_bits_S4 z σ) r) : pX5_bits_S4 z σ s := by
  obtain ⟨a1, a2⟩ := s
  unfold fX5_bits_S4 at h
  unfold pX5_bits_S4
  refine ps_iload_n C (pc := 4) dX5_bits_4 1 rfl ?_
  refine ps_if_eq C (pc := 5) 20 dX5_bits_5 (by decide) (fun hc => ?_) (fun hc => ?_)
  · have h := ps_ift hc h
    obtain rfl := Option.some.inj h
    exact ps_sub [0] rfl k
  · have h := ps_iff hc h
    refine ps_iincL C (pc := 8) (zz := 1) (lw := fun x1 => [(1, .int x1), (2, .int a2)]) dX5_bits_8 0 rfl (by decide) (by decide) (fun _ => rfl) h (fun x1 h => ?_)
    refine ps_iload_n C (pc := 11) dX5_bits_11 1 rfl ?_
    refine ps_iload_n C (pc := 12) dX5_bits_12 1 rfl ?_
    refine ps_iconst C (pc := 13) (v := 1) dX5_bits_13 (by decide) ?_
    refine ps_isub C (pc := 14) dX5_bits_14 ?_
    refine ps_iand C (pc := 15) dX5_bits_15 ?_
    refine ps_istoreL_n C (pc := 16) (lw := fun x2 => [(2, .int x2), (1, .int x1)]) dX5_bits_16 (by decide) (fun _ => rfl) h (fun x2 h => ?_)
    refine ps_goto C (pc := 17) 4 dX5_bits_17 (by decide) ?_
    obtain rfl := Option.some.inj h
    exact ps_sub [1, 0] rfl k
def fX5_bits (a0 : Int32) : Option (Int32) :=
  ((ps_lp (fun s => fX5_bits_S4  s.1 s.2) 100000 ((0 : Int32), a0)).bind fun e3 =>
  some e3)
set_option maxHeartbeats 4000000 in
set_option maxRecDepth 100000 in
theorem tX5_bits {z : ps_X} (C : ps_C z cX5_bits 3 "PartSumsModel") (Z : ps_Z z 0 0) {a0 : Int32}  {σ : ps_S} {r : Int32} (h : fX5_bits a0 = some r) (k : ps_KI z 3 cX5_bits r σ) : ps_at z 3 0 [(0, .int a0)] [] σ := by
  unfold fX5_bits at h
  refine ps_iconst C (pc := 0) (v := 0) dX5_bits_0 (by decide) ?_
  refine ps_istore_n C (pc := 1) (lv' := [(1, .int (0 : Int32)), (0, .int a0)]) dX5_bits_1 (by decide) rfl ?_
  refine ps_iload_n C (pc := 2) dX5_bits_2 1 rfl ?_
  refine ps_istore_n C (pc := 3) (lv' := [(2, .int a0), (1, .int (0 : Int32)), (0, .int a0)]) dX5_bits_3 (by decide) rfl ?_
  obtain ⟨e3, he3, h⟩ := ps_bd h
  refine ps_sub [1, 0] rfl ?_
  refine ps_loop (P := pX5_bits_S4 z σ) (K := qX5_bits_S4 z σ) (fun s r h k => tX5_bits_S4 C Z   σ s r h k) _ _ _ he3 ?_
  unfold qX5_bits_S4
  refine ps_iload_n C (pc := 20) dX5_bits_20 0 rfl ?_
  obtain rfl := Option.some.inj h
  exact k _ _ dX5_bits_21
def rmX5_bits : Room := { frames := 0, cells := 0, slots := 0, locals := 0 }
theorem mX5_bits {l : Launch} {E : ps_E} {σ : ps_S} {a0 : Int32} {r : Int32}  (h : fX5_bits a0 = some r) : ps_MI l yX5_bits (ps_wm yX5_bits cX5_bits 3 (some .int)) rmX5_bits [.int a0] E σ r σ :=
  ps_metI yX5_bits rmX5_bits 3 (own := "PartSumsModel") r (by decide +kernel) rfl (Nat.le_of_ble_eq_true rfl) rfl (fun z e1 e2 e3 e4 e5 C k => by
    subst e5
    exact tX5_bits C (ps_Zof e1 e3 e4)  h k)
theorem hdX5_bits : yX5_bits.cls ≠ "java/lang/invoke/MethodHandle" ∧ yX5_bits.cls ≠ "java/lang/invoke/VarHandle" ∧ (parseMethodDescriptor yX5_bits.desc).map (fun d => d.parameters.length) = some 1 := by decide +kernel
def pX5_lays_S3 (z : ps_X) (a1 : Int32) (s : Int32 × ps_S) : Prop := ps_at z 3 3 [(0, .ref (z_ad z 45)), (1, .int a1), (2, .int s.1)] [] s.2
def qX5_lays_S3 (z : ps_X) (a1 : Int32) (x : (ps_S)) : Prop := match x with | y => ps_at z 3 39 [] [] y
def fX5_lays_S3 (a1 : Int32) (a2 : Int32) (σ : ps_S) : Option ((Int32 × ps_S) ⊕ ((ps_S))) :=
  (if a2 < 0 then some (.inr σ)
  else (ps_ck (σ.1 45 2) 540 ((ps_let (ps_ui σ 46 (Int32.toNatClampNeg (σ.1 45 2)) ((a1.toUInt32 >>> (Int32.toUInt32 a2 &&& Int32.toUInt32 31)).toInt32 &&& (255 : Int32))) fun σ2 =>
  (ps_let (ps_ui σ2 45 2 ((σ2.1 45 2) + (1 : Int32))) fun σ3 =>
  (ps_let (a2 + (-8 : Int32)) fun x4 =>
  some (.inl (x4, σ3))))))))
set_option maxHeartbeats 4000000 in
set_option maxRecDepth 100000 in
theorem tX5_lays_S3 {z : ps_X} (C : ps_C z cX5_lays 3 "PartSumsModel") (Z : ps_Z z 0 0) (a1 : Int32)  (s : Int32 × ps_S) (r : (Int32 × ps_S) ⊕ ((ps_S))) (h : fX5_lays_S3 a1 s.1 s.2 = some r) (k : ps_k (pX5_lays_S3 z a1) (qX5_lays_S3 z a1) r) : pX5_lays_S3 z a1 s := by
  obtain ⟨a2, σ⟩ := s
  unfold fX5_lays_S3 at h
  unfold pX5_lays_S3
  refine ps_iload_n C (pc := 3) dX5_lays_3 2 rfl ?_
  refine ps_if_lt C (pc := 4) 39 dX5_lays_4 (by decide) (fun hc => ?_) (fun hc => ?_)
  · have h := ps_ift hc h
    obtain rfl := Option.some.inj h
    exact ps_sub [] rfl k
  · have h := ps_iff hc h
    refine ps_aload_n C (pc := 7) dX5_lays_7 0 rfl ?_
    refine pg_45_1 C (pc := 8) tw_797 dX5_lays_8 ?_
    refine ps_aload_n C (pc := 11) dX5_lays_11 0 rfl ?_
    refine pg_45_2 C (pc := 12) tw_798 dX5_lays_12 ?_
    refine ps_iload_n C (pc := 15) dX5_lays_15 1 rfl ?_
    refine ps_iload_n C (pc := 16) dX5_lays_16 2 rfl ?_
    refine ps_iushr C (pc := 17) dX5_lays_17 ?_
    refine ps_sipush C (pc := 18) (v := 255) dX5_lays_18 (by decide) ?_
    refine ps_iand C (pc := 21) dX5_lays_21 ?_
    obtain ⟨hi1, h⟩ := ps_ck_s h
    refine ps_iastL C (pc := 22) 46 rfl rfl hi1 dX5_lays_22 h (fun σ2 h => ?_)
    refine ps_aload_n C (pc := 23) dX5_lays_23 0 rfl ?_
    refine ps_dup C (pc := 24) dX5_lays_24 rfl ?_
    refine pg_45_2 C (pc := 25) tw_798 dX5_lays_25 ?_
    refine ps_iconst C (pc := 28) (v := 1) dX5_lays_28 (by decide) ?_
    refine ps_iadd C (pc := 29) dX5_lays_29 ?_
    refine pp_45_2 C (pc := 30) tw_798 dX5_lays_30 h (fun σ3 h => ?_)
    refine ps_iincL C (pc := 33) (zz := -8) (lw := fun x4 => [(2, .int x4), (0, .ref (z_ad z 45)), (1, .int a1)]) dX5_lays_33 2 rfl (by decide) (by decide) (fun _ => rfl) h (fun x4 h => ?_)
    refine ps_goto C (pc := 36) 3 dX5_lays_36 (by decide) ?_
    obtain rfl := Option.some.inj h
    exact ps_sub [1, 2, 0] rfl k
def fX5_lays (a1 : Int32) (σ : ps_S) : Option (ps_S) :=
  ((ps_lp (fun s => fX5_lays_S3 a1 s.1 s.2) 100000 ((24 : Int32), σ)).bind fun e5 =>
  some e5)
set_option maxHeartbeats 4000000 in
set_option maxRecDepth 100000 in
theorem tX5_lays {z : ps_X} (C : ps_C z cX5_lays 3 "PartSumsModel") (Z : ps_Z z 0 0) {a1 : Int32} {σ : ps_S}  {r : ps_S} (h : fX5_lays a1 σ = some r) (k : ps_KV z 3 cX5_lays r) : ps_at z 3 0 [(0, .ref (z_ad z 45)), (1, .int a1)] [] σ := by
  unfold fX5_lays at h
  refine ps_bipush C (pc := 0) (v := 24) dX5_lays_0 (by decide) ?_
  refine ps_istore_n C (pc := 2) (lv' := [(2, .int (24 : Int32)), (0, .ref (z_ad z 45)), (1, .int a1)]) dX5_lays_2 (by decide) rfl ?_
  obtain ⟨e5, he5, h⟩ := ps_bd h
  refine ps_sub [1, 2, 0] rfl ?_
  refine ps_loop (P := pX5_lays_S3 z a1) (K := qX5_lays_S3 z a1) (fun s r h k => tX5_lays_S3 C Z a1  s r h k) _ _ _ he5 ?_
  unfold qX5_lays_S3
  obtain rfl := Option.some.inj h
  exact k _ _ dX5_lays_39
def rmX5_lays : Room := { frames := 0, cells := 0, slots := 0, locals := 0 }
theorem mX5_lays {l : Launch} {E : ps_E} {σ : ps_S} {a1 : Int32} {r : ps_S}  (h : fX5_lays a1 σ = some r) : ps_MV l yX5_lays (ps_wm yX5_lays cX5_lays 3 none) rmX5_lays [.ref (e_ad E 45), .int a1] E σ r :=
  ps_metV yX5_lays rmX5_lays 3 (own := "PartSumsModel")  (by decide +kernel) rfl (Nat.le_of_ble_eq_true rfl) rfl (fun z e1 e2 e3 e4 e5 C k => by
    subst e5
    exact tX5_lays C (ps_Zof e1 e3 e4)  h k)
theorem hdX5_lays : yX5_lays.cls ≠ "java/lang/invoke/MethodHandle" ∧ yX5_lays.cls ≠ "java/lang/invoke/VarHandle" ∧ (parseMethodDescriptor yX5_lays.desc).map (fun d => d.parameters.length) = some 1 := by decide +kernel
def fX5_feed (a1 : Int32) (a2 : Int32) (a3 : Int32) (a4 : Int32) (a5 : Int32) (σ : ps_S) : Option (Int32 × ps_S) :=
  (ps_let (ps_ui σ 45 0 (0 : Int32)) fun σ1 =>
  (if ((σ1.1 45 2) + (20 : Int32)) ≤ (540 : Int32) then ((fX5_lays a1 σ1).bind fun q2 =>
  ((fX5_lays a2 q2).bind fun q3 =>
  ((fX5_lays a3 q3).bind fun q4 =>
  ((fX5_lays a4 q4).bind fun q5 =>
  ((fX5_lays a5 q5).bind fun q6 =>
  some ((q6.1 45 2), q6))))))
  else some ((-1 : Int32), σ1)))
set_option maxHeartbeats 4000000 in
set_option maxRecDepth 100000 in
theorem tX5_feed {z : ps_X} (C : ps_C z cX5_feed 6 "PartSumsModel") (Z : ps_Z z 1 22) {a1 : Int32} {a2 : Int32} {a3 : Int32} {a4 : Int32} {a5 : Int32} {σ : ps_S}  {r : Int32 × ps_S} (h : fX5_feed a1 a2 a3 a4 a5 σ = some r) (k : ps_KI z 6 cX5_feed r.1 r.2) : ps_at z 6 0 [(0, .ref (z_ad z 45)), (1, .int a1), (2, .int a2), (3, .int a3), (4, .int a4), (5, .int a5)] [] σ := by
  unfold fX5_feed at h
  refine ps_aload_n C (pc := 0) dX5_feed_0 0 rfl ?_
  refine ps_iconst C (pc := 1) (v := 0) dX5_feed_1 (by decide) ?_
  refine pp_45_0 C (pc := 2) tw_796 dX5_feed_2 h (fun σ1 h => ?_)
  refine ps_aload_n C (pc := 5) dX5_feed_5 0 rfl ?_
  refine pg_45_2 C (pc := 6) tw_798 dX5_feed_6 ?_
  refine ps_bipush C (pc := 9) (v := 20) dX5_feed_9 (by decide) ?_
  refine ps_iadd C (pc := 11) dX5_feed_11 ?_
  refine ps_sipush C (pc := 12) (v := 540) dX5_feed_12 (by decide) ?_
  refine ps_icmp_le C (pc := 15) 20 dX5_feed_15 (by decide) (fun hc => ?_) (fun hc => ?_)
  · have h := ps_ift hc h
    refine ps_aload_n C (pc := 20) dX5_feed_20 0 rfl ?_
    refine ps_iload_n C (pc := 21) dX5_feed_21 1 rfl ?_
    obtain ⟨q2, hq2, h⟩ := ps_bd h
    refine ps_callVV C Z (pc := 22) (As := [.int a1]) (k0 := 45) (mX5_lays  hq2) (Cn := "PartSumsModel") rfl tw_782 tw_784 tw_25 tw_70 tw_786 hdX5_lays rfl rfl ⟨by decide, by decide⟩ (by decide) ps_o45 rfl rfl (Nat.le_of_ble_eq_true rfl) dX5_feed_22 rfl ?_
    refine ps_aload_n C (pc := 25) dX5_feed_25 0 rfl ?_
    refine ps_iload_n C (pc := 26) dX5_feed_26 2 rfl ?_
    obtain ⟨q3, hq3, h⟩ := ps_bd h
    refine ps_callVV C Z (pc := 27) (As := [.int a2]) (k0 := 45) (mX5_lays  hq3) (Cn := "PartSumsModel") rfl tw_782 tw_784 tw_25 tw_70 tw_786 hdX5_lays rfl rfl ⟨by decide, by decide⟩ (by decide) ps_o45 rfl rfl (Nat.le_of_ble_eq_true rfl) dX5_feed_27 rfl ?_
    refine ps_aload_n C (pc := 30) dX5_feed_30 0 rfl ?_
    refine ps_iload_n C (pc := 31) dX5_feed_31 3 rfl ?_
    obtain ⟨q4, hq4, h⟩ := ps_bd h
    refine ps_callVV C Z (pc := 32) (As := [.int a3]) (k0 := 45) (mX5_lays  hq4) (Cn := "PartSumsModel") rfl tw_782 tw_784 tw_25 tw_70 tw_786 hdX5_lays rfl rfl ⟨by decide, by decide⟩ (by decide) ps_o45 rfl rfl (Nat.le_of_ble_eq_true rfl) dX5_feed_32 rfl ?_
    refine ps_aload_n C (pc := 35) dX5_feed_35 0 rfl ?_
    refine ps_iload C (pc := 36) dX5_feed_36 4 rfl ?_
    obtain ⟨q5, hq5, h⟩ := ps_bd h
    refine ps_callVV C Z (pc := 38) (As := [.int a4]) (k0 := 45) (mX5_lays  hq5) (Cn := "PartSumsModel") rfl tw_782 tw_784 tw_25 tw_70 tw_786 hdX5_lays rfl rfl ⟨by decide, by decide⟩ (by decide) ps_o45 rfl rfl (Nat.le_of_ble_eq_true rfl) dX5_feed_38 rfl ?_
    refine ps_aload_n C (pc := 41) dX5_feed_41 0 rfl ?_
    refine ps_iload C (pc := 42) dX5_feed_42 5 rfl ?_
    obtain ⟨q6, hq6, h⟩ := ps_bd h
    refine ps_callVV C Z (pc := 44) (As := [.int a5]) (k0 := 45) (mX5_lays  hq6) (Cn := "PartSumsModel") rfl tw_782 tw_784 tw_25 tw_70 tw_786 hdX5_lays rfl rfl ⟨by decide, by decide⟩ (by decide) ps_o45 rfl rfl (Nat.le_of_ble_eq_true rfl) dX5_feed_44 rfl ?_
    refine ps_aload_n C (pc := 47) dX5_feed_47 0 rfl ?_
    refine pg_45_2 C (pc := 48) tw_798 dX5_feed_48 ?_
    obtain rfl := Option.some.inj h
    exact k _ _ dX5_feed_51
  · have h := ps_iff hc h
    refine ps_iconst C (pc := 18) (v := -1) dX5_feed_18 (by decide) ?_
    obtain rfl := Option.some.inj h
    exact k _ _ dX5_feed_19
def rmX5_feed : Room := { frames := 1, cells := 0, slots := 0, locals := 22 }
theorem mX5_feed {l : Launch} {E : ps_E} {σ : ps_S} {a1 : Int32} {a2 : Int32} {a3 : Int32} {a4 : Int32} {a5 : Int32} {r : Int32 × ps_S}  (h : fX5_feed a1 a2 a3 a4 a5 σ = some r) : ps_MI l yX5_feed (ps_wm yX5_feed cX5_feed 6 (some .int)) rmX5_feed [.ref (e_ad E 45), .int a1, .int a2, .int a3, .int a4, .int a5] E σ r.1 r.2 :=
  ps_metI yX5_feed rmX5_feed 6 (own := "PartSumsModel") r.1 (by decide +kernel) rfl (Nat.le_of_ble_eq_true rfl) rfl (fun z e1 e2 e3 e4 e5 C k => by
    subst e5
    exact tX5_feed C (ps_Zof e1 e3 e4)  h k)
theorem hdX5_feed : yX5_feed.cls ≠ "java/lang/invoke/MethodHandle" ∧ yX5_feed.cls ≠ "java/lang/invoke/VarHandle" ∧ (parseMethodDescriptor yX5_feed.desc).map (fun d => d.parameters.length) = some 5 := by decide +kernel
def fX5_end (a1 : Int32) (σ : ps_S) : Option (Int32 × ps_S) :=
  (ps_let (ps_ui σ 45 0 (0 : Int32)) fun σ1 =>
  (if a1 < 0 then some ((0 : Int32), σ1)
  else (if a1 ≤ (σ1.1 45 2) then (ps_let (ps_ui σ1 45 2 a1) fun σ2 =>
  some ((1 : Int32), σ2))
  else some ((0 : Int32), σ1))))
set_option maxHeartbeats 4000000 in
set_option maxRecDepth 100000 in
theorem tX5_end {z : ps_X} (C : ps_C z cX5_end 2 "PartSumsModel") (Z : ps_Z z 0 0) {a1 : Int32} {σ : ps_S}  {r : Int32 × ps_S} (h : fX5_end a1 σ = some r) (k : ps_KZ z 2 cX5_end r.1 r.2) : ps_at z 2 0 [(0, .ref (z_ad z 45)), (1, .int a1)] [] σ := by
  unfold fX5_end at h
  refine ps_aload_n C (pc := 0) dX5_end_0 0 rfl ?_
  refine ps_iconst C (pc := 1) (v := 0) dX5_end_1 (by decide) ?_
  refine pp_45_0 C (pc := 2) tw_796 dX5_end_2 h (fun σ1 h => ?_)
  refine ps_iload_n C (pc := 5) dX5_end_5 1 rfl ?_
  refine ps_if_lt C (pc := 6) 17 dX5_end_6 (by decide) (fun hc => ?_) (fun hc => ?_)
  · have h := ps_ift hc h
    refine ps_iconst C (pc := 17) (v := 0) dX5_end_17 (by decide) ?_
    obtain rfl := Option.some.inj h
    exact k _ _ (Or.inl rfl) dX5_end_18
  · have h := ps_iff hc h
    refine ps_iload_n C (pc := 9) dX5_end_9 1 rfl ?_
    refine ps_aload_n C (pc := 10) dX5_end_10 0 rfl ?_
    refine pg_45_2 C (pc := 11) tw_798 dX5_end_11 ?_
    refine ps_icmp_le C (pc := 14) 19 dX5_end_14 (by decide) (fun hc => ?_) (fun hc => ?_)
    · have h := ps_ift hc h
      refine ps_aload_n C (pc := 19) dX5_end_19 0 rfl ?_
      refine ps_iload_n C (pc := 20) dX5_end_20 1 rfl ?_
      refine pp_45_2 C (pc := 21) tw_798 dX5_end_21 h (fun σ2 h => ?_)
      refine ps_iconst C (pc := 24) (v := 1) dX5_end_24 (by decide) ?_
      obtain rfl := Option.some.inj h
      exact k _ _ (Or.inr rfl) dX5_end_25
    · have h := ps_iff hc h
      refine ps_iconst C (pc := 17) (v := 0) dX5_end_17 (by decide) ?_
      obtain rfl := Option.some.inj h
      exact k _ _ (Or.inl rfl) dX5_end_18
def rmX5_end : Room := { frames := 0, cells := 0, slots := 0, locals := 0 }
theorem mX5_end {l : Launch} {E : ps_E} {σ : ps_S} {a1 : Int32} {r : Int32 × ps_S}  (h : fX5_end a1 σ = some r) : ps_MI l yX5_end (ps_wm yX5_end cX5_end 2 (some .boolean)) rmX5_end [.ref (e_ad E 45), .int a1] E σ r.1 r.2 :=
  ps_metZ yX5_end rmX5_end 2 (own := "PartSumsModel") r.1 (by decide +kernel) rfl (Nat.le_of_ble_eq_true rfl) rfl (fun z e1 e2 e3 e4 e5 C k => by
    subst e5
    exact tX5_end C (ps_Zof e1 e3 e4)  h k)
theorem hdX5_end : yX5_end.cls ≠ "java/lang/invoke/MethodHandle" ∧ yX5_end.cls ≠ "java/lang/invoke/VarHandle" ∧ (parseMethodDescriptor yX5_end.desc).map (fun d => d.parameters.length) = some 1 := by decide +kernel
def fX5_tapeAt (a1 : Int32) (σ : ps_S) : Option (Int32) :=
  (if (σ.1 45 3) ≤ a1 then some (0 : Int32)
  else (ps_ck a1 540 (some (σ.1 46 (Int32.toNatClampNeg a1)))))
set_option maxHeartbeats 4000000 in
set_option maxRecDepth 100000 in
theorem tX5_tapeAt {z : ps_X} (C : ps_C z cX5_tapeAt 2 "PartSumsModel") (Z : ps_Z z 0 0) {a1 : Int32} {σ : ps_S}  {r : Int32} (h : fX5_tapeAt a1 σ = some r) (k : ps_KI z 2 cX5_tapeAt r σ) : ps_at z 2 0 [(0, .ref (z_ad z 45)), (1, .int a1)] [] σ := by
  unfold fX5_tapeAt at h
  refine ps_iload_n C (pc := 0) dX5_tapeAt_0 1 rfl ?_
  refine ps_aload_n C (pc := 1) dX5_tapeAt_1 0 rfl ?_
  refine pg_45_3 C (pc := 2) tw_799 dX5_tapeAt_2 ?_
  refine ps_icmp_ge C (pc := 5) 17 dX5_tapeAt_5 (by decide) (fun hc => ?_) (fun hc => ?_)
  · have h := ps_ift hc h
    refine ps_iconst C (pc := 17) (v := 0) dX5_tapeAt_17 (by decide) ?_
    obtain rfl := Option.some.inj h
    exact k _ _ dX5_tapeAt_18
  · have h := ps_iff hc h
    refine ps_aload_n C (pc := 8) dX5_tapeAt_8 0 rfl ?_
    refine pg_45_1 C (pc := 9) tw_797 dX5_tapeAt_9 ?_
    refine ps_iload_n C (pc := 12) dX5_tapeAt_12 1 rfl ?_
    obtain ⟨hi1, h⟩ := ps_ck_s h
    refine ps_iald C (pc := 13) 46 rfl rfl hi1 dX5_tapeAt_13 ?_
    refine ps_goto C (pc := 14) 18 dX5_tapeAt_14 (by decide) ?_
    obtain rfl := Option.some.inj h
    exact k _ _ dX5_tapeAt_18
def rmX5_tapeAt : Room := { frames := 0, cells := 0, slots := 0, locals := 0 }
theorem mX5_tapeAt {l : Launch} {E : ps_E} {σ : ps_S} {a1 : Int32} {r : Int32}  (h : fX5_tapeAt a1 σ = some r) : ps_MI l yX5_tapeAt (ps_wm yX5_tapeAt cX5_tapeAt 2 (some .int)) rmX5_tapeAt [.ref (e_ad E 45), .int a1] E σ r σ :=
  ps_metI yX5_tapeAt rmX5_tapeAt 2 (own := "PartSumsModel") r (by decide +kernel) rfl (Nat.le_of_ble_eq_true rfl) rfl (fun z e1 e2 e3 e4 e5 C k => by
    subst e5
    exact tX5_tapeAt C (ps_Zof e1 e3 e4)  h k)
theorem hdX5_tapeAt : yX5_tapeAt.cls ≠ "java/lang/invoke/MethodHandle" ∧ yX5_tapeAt.cls ≠ "java/lang/invoke/VarHandle" ∧ (parseMethodDescriptor yX5_tapeAt.desc).map (fun d => d.parameters.length) = some 1 := by decide +kernel
def fX5_isDigit (a0 : Int32) : Option (Int32) :=
  (if a0 < (48 : Int32) then some (0 : Int32)
  else (if (57 : Int32) < a0 then some (0 : Int32)
  else some (1 : Int32)))
set_option maxHeartbeats 4000000 in
set_option maxRecDepth 100000 in
theorem tX5_isDigit {z : ps_X} (C : ps_C z cX5_isDigit 1 "PartSumsModel") (Z : ps_Z z 0 0) {a0 : Int32}  {σ : ps_S} {r : Int32} (h : fX5_isDigit a0 = some r) (k : ps_KZ z 1 cX5_isDigit r σ) : ps_at z 1 0 [(0, .int a0)] [] σ := by
  unfold fX5_isDigit at h
  refine ps_iload_n C (pc := 0) dX5_isDigit_0 0 rfl ?_
  refine ps_bipush C (pc := 1) (v := 48) dX5_isDigit_1 (by decide) ?_
  refine ps_icmp_lt C (pc := 3) 16 dX5_isDigit_3 (by decide) (fun hc => ?_) (fun hc => ?_)
  · have h := ps_ift hc h
    refine ps_iconst C (pc := 16) (v := 0) dX5_isDigit_16 (by decide) ?_
    obtain rfl := Option.some.inj h
    exact k _ _ (Or.inl rfl) dX5_isDigit_17
  · have h := ps_iff hc h
    refine ps_iload_n C (pc := 6) dX5_isDigit_6 0 rfl ?_
    refine ps_bipush C (pc := 7) (v := 57) dX5_isDigit_7 (by decide) ?_
    refine ps_icmp_gt C (pc := 9) 16 dX5_isDigit_9 (by decide) (fun hc => ?_) (fun hc => ?_)
    · have h := ps_ift hc h
      refine ps_iconst C (pc := 16) (v := 0) dX5_isDigit_16 (by decide) ?_
      obtain rfl := Option.some.inj h
      exact k _ _ (Or.inl rfl) dX5_isDigit_17
    · have h := ps_iff hc h
      refine ps_iconst C (pc := 12) (v := 1) dX5_isDigit_12 (by decide) ?_
      refine ps_goto C (pc := 13) 17 dX5_isDigit_13 (by decide) ?_
      obtain rfl := Option.some.inj h
      exact k _ _ (Or.inr rfl) dX5_isDigit_17
def rmX5_isDigit : Room := { frames := 0, cells := 0, slots := 0, locals := 0 }
theorem mX5_isDigit {l : Launch} {E : ps_E} {σ : ps_S} {a0 : Int32} {r : Int32}  (h : fX5_isDigit a0 = some r) : ps_MI l yX5_isDigit (ps_wm yX5_isDigit cX5_isDigit 1 (some .boolean)) rmX5_isDigit [.int a0] E σ r σ :=
  ps_metZ yX5_isDigit rmX5_isDigit 1 (own := "PartSumsModel") r (by decide +kernel) rfl (Nat.le_of_ble_eq_true rfl) rfl (fun z e1 e2 e3 e4 e5 C k => by
    subst e5
    exact tX5_isDigit C (ps_Zof e1 e3 e4)  h k)
theorem hdX5_isDigit : yX5_isDigit.cls ≠ "java/lang/invoke/MethodHandle" ∧ yX5_isDigit.cls ≠ "java/lang/invoke/VarHandle" ∧ (parseMethodDescriptor yX5_isDigit.desc).map (fun d => d.parameters.length) = some 1 := by decide +kernel
def fX5_isLetter (a0 : Int32) : Option (Int32) :=
  (if a0 < (97 : Int32) then some (0 : Int32)
  else (if (122 : Int32) < a0 then some (0 : Int32)
  else some (1 : Int32)))
set_option maxHeartbeats 4000000 in
set_option maxRecDepth 100000 in
theorem tX5_isLetter {z : ps_X} (C : ps_C z cX5_isLetter 1 "PartSumsModel") (Z : ps_Z z 0 0) {a0 : Int32}  {σ : ps_S} {r : Int32} (h : fX5_isLetter a0 = some r) (k : ps_KZ z 1 cX5_isLetter r σ) : ps_at z 1 0 [(0, .int a0)] [] σ := by
  unfold fX5_isLetter at h
  refine ps_iload_n C (pc := 0) dX5_isLetter_0 0 rfl ?_
  refine ps_bipush C (pc := 1) (v := 97) dX5_isLetter_1 (by decide) ?_
  refine ps_icmp_lt C (pc := 3) 16 dX5_isLetter_3 (by decide) (fun hc => ?_) (fun hc => ?_)
  · have h := ps_ift hc h
    refine ps_iconst C (pc := 16) (v := 0) dX5_isLetter_16 (by decide) ?_
    obtain rfl := Option.some.inj h
    exact k _ _ (Or.inl rfl) dX5_isLetter_17
  · have h := ps_iff hc h
    refine ps_iload_n C (pc := 6) dX5_isLetter_6 0 rfl ?_
    refine ps_bipush C (pc := 7) (v := 122) dX5_isLetter_7 (by decide) ?_
    refine ps_icmp_gt C (pc := 9) 16 dX5_isLetter_9 (by decide) (fun hc => ?_) (fun hc => ?_)
    · have h := ps_ift hc h
      refine ps_iconst C (pc := 16) (v := 0) dX5_isLetter_16 (by decide) ?_
      obtain rfl := Option.some.inj h
      exact k _ _ (Or.inl rfl) dX5_isLetter_17
    · have h := ps_iff hc h
      refine ps_iconst C (pc := 12) (v := 1) dX5_isLetter_12 (by decide) ?_
      refine ps_goto C (pc := 13) 17 dX5_isLetter_13 (by decide) ?_
      obtain rfl := Option.some.inj h
      exact k _ _ (Or.inr rfl) dX5_isLetter_17
def rmX5_isLetter : Room := { frames := 0, cells := 0, slots := 0, locals := 0 }
theorem mX5_isLetter {l : Launch} {E : ps_E} {σ : ps_S} {a0 : Int32} {r : Int32}  (h : fX5_isLetter a0 = some r) : ps_MI l yX5_isLetter (ps_wm yX5_isLetter cX5_isLetter 1 (some .boolean)) rmX5_isLetter [.int a0] E σ r σ :=
  ps_metZ yX5_isLetter rmX5_isLetter 1 (own := "PartSumsModel") r (by decide +kernel) rfl (Nat.le_of_ble_eq_true rfl) rfl (fun z e1 e2 e3 e4 e5 C k => by
    subst e5
    exact tX5_isLetter C (ps_Zof e1 e3 e4)  h k)
theorem hdX5_isLetter : yX5_isLetter.cls ≠ "java/lang/invoke/MethodHandle" ∧ yX5_isLetter.cls ≠ "java/lang/invoke/VarHandle" ∧ (parseMethodDescriptor yX5_isLetter.desc).map (fun d => d.parameters.length) = some 1 := by decide +kernel
def pX5_next_S0 (z : ps_X)  (s : ps_S) : Prop := ps_at z 5 0 [(0, .ref (z_ad z 45))] [] s
def qX5_next_S0 (z : ps_X)  (x : (ps_S)) : Prop := match x with | y => ps_at z 5 52 [(0, .ref (z_ad z 45))] [] y
def fX5_next_J39 (σ : ps_S) : Option ((ps_S) ⊕ ((ps_S))) :=
  (ps_let (ps_ui σ 45 4 ((σ.1 45 4) + (1 : Int32))) fun σ2 =>
  some (.inl σ2))
set_option maxHeartbeats 4000000 in
set_option maxRecDepth 100000 in
theorem tX5_next_J39 {z : ps_X} (C : ps_C z cX5_next 5 "PartSumsModel") (Z : ps_Z z 1 21) {σ : ps_S}  {r : (ps_S) ⊕ ((ps_S))} (h : fX5_next_J39 σ = some r) (k : ps_k (pX5_next_S0 z ) (qX5_next_S0 z ) r) : ps_at z 5 39 [(0, .ref (z_ad z 45))] [] σ := by
  unfold fX5_next_J39 at h
  refine ps_aload_n C (pc := 39) dX5_next_39 0 rfl ?_
  refine ps_dup C (pc := 40) dX5_next_40 rfl ?_
  refine pg_45_4 C (pc := 41) tw_800 dX5_next_41 ?_
  refine ps_iconst C (pc := 44) (v := 1) dX5_next_44 (by decide) ?_
  refine ps_iadd C (pc := 45) dX5_next_45 ?_
  refine pp_45_4 C (pc := 46) tw_800 dX5_next_46 h (fun σ2 h => ?_)
  refine ps_goto C (pc := 49) 0 dX5_next_49 (by decide) ?_
  obtain rfl := Option.some.inj h
  exact ps_sub [0] rfl k
def fX5_next_S0  (σ : ps_S) : Option ((ps_S) ⊕ ((ps_S))) :=
  (if (σ.1 45 3) ≤ (σ.1 45 4) then some (.inr σ)
  else (ps_ck (σ.1 45 4) 540 ((if (σ.1 46 (Int32.toNatClampNeg (σ.1 45 4))) = (32 : Int32) then fX5_next_J39 σ
  else (ps_ck (σ.1 45 4) 540 ((if (σ.1 46 (Int32.toNatClampNeg (σ.1 45 4))) = (10 : Int32) then fX5_next_J39 σ
  else some (.inr σ))))))))
set_option maxHeartbeats 4000000 in
set_option maxRecDepth 100000 in
theorem tX5_next_S0 {z : ps_X} (C : ps_C z cX5_next 5 "PartSumsModel") (Z : ps_Z z 1 21)   (s : ps_S) (r : (ps_S) ⊕ ((ps_S))) (h : fX5_next_S0  s = some r) (k : ps_k (pX5_next_S0 z ) (qX5_next_S0 z ) r) : pX5_next_S0 z  s := by
  generalize s = σ at h ⊢
  unfold fX5_next_S0 at h
  unfold pX5_next_S0
  refine ps_aload_n C (pc := 0) dX5_next_0 0 rfl ?_
  refine pg_45_4 C (pc := 1) tw_800 dX5_next_1 ?_
  refine ps_aload_n C (pc := 4) dX5_next_4 0 rfl ?_
  refine pg_45_3 C (pc := 5) tw_799 dX5_next_5 ?_
  refine ps_icmp_ge C (pc := 8) 52 dX5_next_8 (by decide) (fun hc => ?_) (fun hc => ?_)
  · have h := ps_ift hc h
    obtain rfl := Option.some.inj h
    exact ps_sub [0] rfl k
  · have h := ps_iff hc h
    refine ps_aload_n C (pc := 11) dX5_next_11 0 rfl ?_
    refine pg_45_1 C (pc := 12) tw_797 dX5_next_12 ?_
    refine ps_aload_n C (pc := 15) dX5_next_15 0 rfl ?_
    refine pg_45_4 C (pc := 16) tw_800 dX5_next_16 ?_
    obtain ⟨hi1, h⟩ := ps_ck_s h
    refine ps_iald C (pc := 19) 46 rfl rfl hi1 dX5_next_19 ?_
    refine ps_bipush C (pc := 20) (v := 32) dX5_next_20 (by decide) ?_
    refine ps_icmp_eq C (pc := 22) 39 dX5_next_22 (by decide) (fun hc => ?_) (fun hc => ?_)
    · have h := ps_ift hc h
      exact ps_sub [0] rfl (tX5_next_J39 C Z  h k)
    · have h := ps_iff hc h
      refine ps_aload_n C (pc := 25) dX5_next_25 0 rfl ?_
      refine pg_45_1 C (pc := 26) tw_797 dX5_next_26 ?_
      refine ps_aload_n C (pc := 29) dX5_next_29 0 rfl ?_
      refine pg_45_4 C (pc := 30) tw_800 dX5_next_30 ?_
      obtain ⟨hi3, h⟩ := ps_ck_s h
      refine ps_iald C (pc := 33) 46 rfl rfl hi3 dX5_next_33 ?_
      refine ps_bipush C (pc := 34) (v := 10) dX5_next_34 (by decide) ?_
      refine ps_icmp_ne C (pc := 36) 52 dX5_next_36 (by decide) (fun hc => ?_) (fun hc => ?_)
      · have h := ps_iff hc h
        obtain rfl := Option.some.inj h
        exact ps_sub [0] rfl k
      · have h := ps_ift hc h
        exact ps_sub [0] rfl (tX5_next_J39 C Z  h k)
def pX5_next_S172 (z : ps_X) (a2 : Int32) (s : Int32 × ps_S) : Prop := ps_at z 5 172 [(0, .ref (z_ad z 45)), (2, .int a2), (3, .int s.1)] [] s.2
def qX5_next_S172 (z : ps_X) (a2 : Int32) (x : (Int32 × ps_S)) : Prop := match x with | y => ps_at z 5 273 [(0, .ref (z_ad z 45)), (2, .int a2), (3, .int y.1)] [] y.2
def fX5_next_J260 (a2 : Int32) (a3 : Int32) (σ : ps_S) : Option ((Int32 × ps_S) ⊕ ((Int32 × ps_S))) :=
  (ps_let (ps_ui σ 45 4 ((σ.1 45 4) + (1 : Int32))) fun σ15 =>
  some (.inl (a3, σ15)))
set_option maxHeartbeats 4000000 in
set_option maxRecDepth 100000 in
theorem tX5_next_J260 {z : ps_X} (C : ps_C z cX5_next 5 "PartSumsModel") (Z : ps_Z z 1 21) {a2 : Int32} {a3 : Int32} {σ : ps_S}  {r : (Int32 × ps_S) ⊕ ((Int32 × ps_S))} (h : fX5_next_J260 a2 a3 σ = some r) (k : ps_k (pX5_next_S172 z a2) (qX5_next_S172 z a2) r) : ps_at z 5 260 [(0, .ref (z_ad z 45)), (2, .int a2), (3, .int a3)] [] σ := by
  unfold fX5_next_J260 at h
  refine ps_aload_n C (pc := 260) dX5_next_260 0 rfl ?_
  refine ps_dup C (pc := 261) dX5_next_261 rfl ?_
  refine pg_45_4 C (pc := 262) tw_800 dX5_next_262 ?_
  refine ps_iconst C (pc := 265) (v := 1) dX5_next_265 (by decide) ?_
  refine ps_iadd C (pc := 266) dX5_next_266 ?_
  refine pp_45_4 C (pc := 267) tw_800 dX5_next_267 h (fun σ15 h => ?_)
  refine ps_goto C (pc := 270) 172 dX5_next_270 (by decide) ?_
  obtain rfl := Option.some.inj h
  exact ps_sub [0, 1, 2] rfl k
def fX5_next_J229 (a2 : Int32) (a4 : Int32) (u0 : Int32) (σ : ps_S) : Option ((Int32 × ps_S) ⊕ ((Int32 × ps_S))) :=
  (if (3 : Int32) ≤ ((σ.1 45 4) - (σ.1 45 5)) then fX5_next_J260 a2 u0 σ
  else (ps_let (ps_ui σ 45 7 ((((10 : Int32) * (σ.1 45 7)) + a4) - (48 : Int32))) fun σ16 =>
  fX5_next_J260 a2 u0 σ16))
set_option maxHeartbeats 4000000 in
set_option maxRecDepth 100000 in
theorem tX5_next_J229 {z : ps_X} (C : ps_C z cX5_next 5 "PartSumsModel") (Z : ps_Z z 1 21) {a2 : Int32} {a4 : Int32} {u0 : Int32} {σ : ps_S}  {r : (Int32 × ps_S) ⊕ ((Int32 × ps_S))} (h : fX5_next_J229 a2 a4 u0 σ = some r) (k : ps_k (pX5_next_S172 z a2) (qX5_next_S172 z a2) r) : ps_at z 5 229 [(0, .ref (z_ad z 45)), (2, .int a2), (4, .int a4)] [.int u0] σ := by
  unfold fX5_next_J229 at h
  refine ps_istore_n C (pc := 229) (lv' := [(3, .int u0), (0, .ref (z_ad z 45)), (2, .int a2), (4, .int a4)]) dX5_next_229 (by decide) rfl ?_
  refine ps_aload_n C (pc := 230) dX5_next_230 1 rfl ?_
  refine pg_45_4 C (pc := 231) tw_800 dX5_next_231 ?_
  refine ps_aload_n C (pc := 234) dX5_next_234 1 rfl ?_
  refine pg_45_5 C (pc := 235) tw_801 dX5_next_235 ?_
  refine ps_isub C (pc := 238) dX5_next_238 ?_
  refine ps_iconst C (pc := 239) (v := 3) dX5_next_239 (by decide) ?_
  refine ps_icmp_ge C (pc := 240) 260 dX5_next_240 (by decide) (fun hc => ?_) (fun hc => ?_)
  · have h := ps_ift hc h
    exact ps_sub [1, 2, 0] rfl (tX5_next_J260 C Z  h k)
  · have h := ps_iff hc h
    refine ps_aload_n C (pc := 243) dX5_next_243 1 rfl ?_
    refine ps_bipush C (pc := 244) (v := 10) dX5_next_244 (by decide) ?_
    refine ps_aload_n C (pc := 246) dX5_next_246 1 rfl ?_
    refine pg_45_7 C (pc := 247) tw_803 dX5_next_247 ?_
    refine ps_imul C (pc := 250) dX5_next_250 ?_
    refine ps_iload C (pc := 251) dX5_next_251 3 rfl ?_
    refine ps_iadd C (pc := 253) dX5_next_253 ?_
    refine ps_bipush C (pc := 254) (v := 48) dX5_next_254 (by decide) ?_
    refine ps_isub C (pc := 256) dX5_next_256 ?_
    refine pp_45_7 C (pc := 257) tw_803 dX5_next_257 h (fun σ16 h => ?_)
    exact ps_sub [1, 2, 0] rfl (tX5_next_J260 C Z  h k)
def fX5_next_J228 (a2 : Int32) (a4 : Int32) (σ : ps_S) : Option ((Int32 × ps_S) ⊕ ((Int32 × ps_S))) :=
  fX5_next_J229 a2 a4 (0 : Int32) σ
set_option maxHeartbeats 4000000 in
set_option maxRecDepth 100000 in
theorem tX5_next_J228 {z : ps_X} (C : ps_C z cX5_next 5 "PartSumsModel") (Z : ps_Z z 1 21) {a2 : Int32} {a4 : Int32} {σ : ps_S}  {r : (Int32 × ps_S) ⊕ ((Int32 × ps_S))} (h : fX5_next_J228 a2 a4 σ = some r) (k : ps_k (pX5_next_S172 z a2) (qX5_next_S172 z a2) r) : ps_at z 5 228 [(0, .ref (z_ad z 45)), (2, .int a2), (4, .int a4)] [] σ := by
  unfold fX5_next_J228 at h
  refine ps_iconst C (pc := 228) (v := 0) dX5_next_228 (by decide) ?_
  exact ps_sub [0, 1, 2] rfl (tX5_next_J229 C Z  h k)
def fX5_next_J200 (a2 : Int32) (a3 : Int32) (σ : ps_S) : Option ((Int32 × ps_S) ⊕ ((Int32 × ps_S))) :=
  (ps_ck (σ.1 45 4) 540 ((ps_let (σ.1 46 (Int32.toNatClampNeg (σ.1 45 4))) fun x14 =>
  (if a3 = 0 then fX5_next_J228 a2 x14 σ
  else ((fX5_isLetter x14).bind fun q17 =>
  (if q17 = a2 then fX5_next_J229 a2 x14 (1 : Int32) σ
  else fX5_next_J228 a2 x14 σ))))))
set_option maxHeartbeats 4000000 in
set_option maxRecDepth 100000 in
theorem tX5_next_J200 {z : ps_X} (C : ps_C z cX5_next 5 "PartSumsModel") (Z : ps_Z z 1 21) {a2 : Int32} {a3 : Int32} {σ : ps_S}  {r : (Int32 × ps_S) ⊕ ((Int32 × ps_S))} (h : fX5_next_J200 a2 a3 σ = some r) (k : ps_k (pX5_next_S172 z a2) (qX5_next_S172 z a2) r) : ps_at z 5 200 [(0, .ref (z_ad z 45)), (2, .int a2), (3, .int a3)] [] σ := by
  unfold fX5_next_J200 at h
  refine ps_aload_n C (pc := 200) dX5_next_200 0 rfl ?_
  refine pg_45_1 C (pc := 201) tw_797 dX5_next_201 ?_
  refine ps_aload_n C (pc := 204) dX5_next_204 0 rfl ?_
  refine pg_45_4 C (pc := 205) tw_800 dX5_next_205 ?_
  obtain ⟨hi13, h⟩ := ps_ck_s h
  refine ps_iald C (pc := 208) 46 rfl rfl hi13 dX5_next_208 ?_
  refine ps_istoreL C (pc := 209) (lw := fun x14 => [(4, .int x14), (0, .ref (z_ad z 45)), (2, .int a2), (3, .int a3)]) dX5_next_209 (by decide) (fun _ => rfl) h (fun x14 h => ?_)
  refine ps_iload_n C (pc := 211) dX5_next_211 3 rfl ?_
  refine ps_if_eq C (pc := 212) 228 dX5_next_212 (by decide) (fun hc => ?_) (fun hc => ?_)
  · have h := ps_ift hc h
    exact ps_sub [1, 2, 0] rfl (tX5_next_J228 C Z  h k)
  · have h := ps_iff hc h
    refine ps_iload C (pc := 215) dX5_next_215 0 rfl ?_
    obtain ⟨q17, hq17, h⟩ := ps_bd h
    refine ps_callSI C Z (pc := 217) (As := [.int x14]) (mX5_isLetter  hq17) tw_878 tw_879 tw_70 tw_880 hdX5_isLetter rfl rfl ⟨by decide, by decide⟩ rfl (Nat.le_of_ble_eq_true rfl) dX5_next_217 rfl ?_
    refine ps_iload_n C (pc := 220) dX5_next_220 2 rfl ?_
    refine ps_icmp_ne C (pc := 221) 228 dX5_next_221 (by decide) (fun hc => ?_) (fun hc => ?_)
    · have h := ps_iff hc h
      exact ps_sub [1, 2, 0] rfl (tX5_next_J228 C Z  h k)
    · have h := ps_ift hc h
      refine ps_iconst C (pc := 224) (v := 1) dX5_next_224 (by decide) ?_
      refine ps_goto C (pc := 225) 229 dX5_next_225 (by decide) ?_
      exact ps_sub [1, 2, 0] rfl (tX5_next_J229 C Z  h k)
def fX5_next_S172 (a2 : Int32) (a3 : Int32) (σ : ps_S) : Option ((Int32 × ps_S) ⊕ ((Int32 × ps_S))) :=
  ((fX5_tapeAt (σ.1 45 4) σ).bind fun q11 =>
  ((fX5_isLetter q11).bind fun q12 =>
  (if q12 = 0 then ((fX5_tapeAt (σ.1 45 4) σ).bind fun q18 =>
  ((fX5_isDigit q18).bind fun q19 =>
  (if q19 = 0 then some (.inr (a3, σ))
  else fX5_next_J200 a2 a3 σ)))
  else fX5_next_J200 a2 a3 σ)))
set_option maxHeartbeats 4000000 in
set_option maxRecDepth 100000 in
theorem tX5_next_S172 {z : ps_X} (C : ps_C z cX5_next 5 "PartSumsModel") (Z : ps_Z z 1 21) (a2 : Int32)  (s : Int32 × ps_S) (r : (Int32 × ps_S) ⊕ ((Int32 × ps_S))) (h : fX5_next_S172 a2 s.1 s.2 = some r) (k : ps_k (pX5_next_S172 z a2) (qX5_next_S172 z a2) r) : pX5_next_S172 z a2 s := by
  obtain ⟨a3, σ⟩ := s
  unfold fX5_next_S172 at h
  unfold pX5_next_S172
  refine ps_aload_n C (pc := 172) dX5_next_172 0 rfl ?_
  refine ps_aload_n C (pc := 173) dX5_next_173 0 rfl ?_
  refine pg_45_4 C (pc := 174) tw_800 dX5_next_174 ?_
  obtain ⟨q11, hq11, h⟩ := ps_bd h
  refine ps_callVI C Z (pc := 177) (As := [.int (σ.1 45 4)]) (k0 := 45) (mX5_tapeAt  hq11) (Cn := "PartSumsModel") rfl tw_884 tw_886 tw_27 tw_70 tw_887 hdX5_tapeAt rfl rfl ⟨by decide, by decide⟩ (by decide) ps_o45 rfl rfl (Nat.le_of_ble_eq_true rfl) dX5_next_177 rfl ?_
  obtain ⟨q12, hq12, h⟩ := ps_bd h
  refine ps_callSI C Z (pc := 180) (As := [.int q11]) (mX5_isLetter  hq12) tw_878 tw_879 tw_70 tw_880 hdX5_isLetter rfl rfl ⟨by decide, by decide⟩ rfl (Nat.le_of_ble_eq_true rfl) dX5_next_180 rfl ?_
  refine ps_if_ne C (pc := 183) 200 dX5_next_183 (by decide) (fun hc => ?_) (fun hc => ?_)
  · have h := ps_iff hc h
    exact ps_sub [0, 1, 2] rfl (tX5_next_J200 C Z  h k)
  · have h := ps_ift hc h
    refine ps_aload_n C (pc := 186) dX5_next_186 0 rfl ?_
    refine ps_aload_n C (pc := 187) dX5_next_187 0 rfl ?_
    refine pg_45_4 C (pc := 188) tw_800 dX5_next_188 ?_
    obtain ⟨q18, hq18, h⟩ := ps_bd h
    refine ps_callVI C Z (pc := 191) (As := [.int (σ.1 45 4)]) (k0 := 45) (mX5_tapeAt  hq18) (Cn := "PartSumsModel") rfl tw_884 tw_886 tw_27 tw_70 tw_887 hdX5_tapeAt rfl rfl ⟨by decide, by decide⟩ (by decide) ps_o45 rfl rfl (Nat.le_of_ble_eq_true rfl) dX5_next_191 rfl ?_
    obtain ⟨q19, hq19, h⟩ := ps_bd h
    refine ps_callSI C Z (pc := 194) (As := [.int q18]) (mX5_isDigit  hq19) tw_881 tw_882 tw_70 tw_883 hdX5_isDigit rfl rfl ⟨by decide, by decide⟩ rfl (Nat.le_of_ble_eq_true rfl) dX5_next_194 rfl ?_
    refine ps_if_eq C (pc := 197) 273 dX5_next_197 (by decide) (fun hc => ?_) (fun hc => ?_)
    · have h := ps_ift hc h
      obtain rfl := Option.some.inj h
      exact ps_sub [0, 1, 2] rfl k
    · have h := ps_iff hc h
      exact ps_sub [0, 1, 2] rfl (tX5_next_J200 C Z  h k)
def fX5_next_J295 (σ : ps_S) : Option (ps_S) :=
  (ps_let (ps_ui σ 45 6 (1 : Int32)) fun σ21 =>
  some σ21)
set_option maxHeartbeats 4000000 in
set_option maxRecDepth 100000 in
theorem tX5_next_J295 {z : ps_X} (C : ps_C z cX5_next 5 "PartSumsModel") (Z : ps_Z z 1 21) {σ : ps_S}  {r : ps_S} (h : fX5_next_J295 σ = some r) (k : ps_KV z 5 cX5_next r) : ps_at z 5 295 [] [.ref (z_ad z 45)] σ := by
  unfold fX5_next_J295 at h
  refine ps_iconst C (pc := 295) (v := 1) dX5_next_295 (by decide) ?_
  refine ps_goto C (pc := 296) 308 dX5_next_296 (by decide) ?_
  refine pp_45_6 C (pc := 308) tw_802 dX5_next_308 h (fun σ21 h => ?_)
  obtain rfl := Option.some.inj h
  exact k _ _ dX5_next_311
def fX5_next_J299 (a2 : Int32) (σ : ps_S) : Option (ps_S) :=
  (if a2 = 0 then (ps_let (ps_ui σ 45 6 (3 : Int32)) fun σ22 =>
  some σ22)
  else (ps_let (ps_ui σ 45 6 (2 : Int32)) fun σ23 =>
  some σ23))
set_option maxHeartbeats 4000000 in
set_option maxRecDepth 100000 in
theorem tX5_next_J299 {z : ps_X} (C : ps_C z cX5_next 5 "PartSumsModel") (Z : ps_Z z 1 21) {a2 : Int32} {σ : ps_S}  {r : ps_S} (h : fX5_next_J299 a2 σ = some r) (k : ps_KV z 5 cX5_next r) : ps_at z 5 299 [(2, .int a2)] [.ref (z_ad z 45)] σ := by
  unfold fX5_next_J299 at h
  refine ps_iload_n C (pc := 299) dX5_next_299 0 rfl ?_
  refine ps_if_eq C (pc := 300) 307 dX5_next_300 (by decide) (fun hc => ?_) (fun hc => ?_)
  · have h := ps_ift hc h
    refine ps_iconst C (pc := 307) (v := 3) dX5_next_307 (by decide) ?_
    refine pp_45_6 C (pc := 308) tw_802 dX5_next_308 h (fun σ22 h => ?_)
    obtain rfl := Option.some.inj h
    exact k _ _ dX5_next_311
  · have h := ps_iff hc h
    refine ps_iconst C (pc := 303) (v := 2) dX5_next_303 (by decide) ?_
    refine ps_goto C (pc := 304) 308 dX5_next_304 (by decide) ?_
    refine pp_45_6 C (pc := 308) tw_802 dX5_next_308 h (fun σ23 h => ?_)
    obtain rfl := Option.some.inj h
    exact k _ _ dX5_next_311
def fX5_next_J160 (a1 : Int32) (σ : ps_S) : Option (ps_S) :=
  ((fX5_isLetter a1).bind fun q9 =>
  (ps_let (ps_ui σ 45 7 (0 : Int32)) fun σ10 =>
  ((ps_lp (fun s => fX5_next_S172 q9 s.1 s.2) 100000 ((1 : Int32), σ10)).bind fun e20 =>
  (if e20.1 = 0 then fX5_next_J295 e20.2
  else (if q9 = 0 then (if ((e20.2.1 45 4) - (e20.2.1 45 5)) ≤ (3 : Int32) then fX5_next_J299 q9 e20.2
  else fX5_next_J295 e20.2)
  else fX5_next_J299 q9 e20.2)))))
set_option maxHeartbeats 4000000 in
set_option maxRecDepth 100000 in
theorem tX5_next_J160 {z : ps_X} (C : ps_C z cX5_next 5 "PartSumsModel") (Z : ps_Z z 1 21) {a1 : Int32} {σ : ps_S}  {r : ps_S} (h : fX5_next_J160 a1 σ = some r) (k : ps_KV z 5 cX5_next r) : ps_at z 5 160 [(0, .ref (z_ad z 45)), (1, .int a1)] [] σ := by
  unfold fX5_next_J160 at h
  refine ps_iload_n C (pc := 160) dX5_next_160 1 rfl ?_
  obtain ⟨q9, hq9, h⟩ := ps_bd h
  refine ps_callSI C Z (pc := 161) (As := [.int a1]) (mX5_isLetter  hq9) tw_878 tw_879 tw_70 tw_880 hdX5_isLetter rfl rfl ⟨by decide, by decide⟩ rfl (Nat.le_of_ble_eq_true rfl) dX5_next_161 rfl ?_
  refine ps_istore_n C (pc := 164) (lv' := [(2, .int q9), (0, .ref (z_ad z 45)), (1, .int a1)]) dX5_next_164 (by decide) rfl ?_
  refine ps_iconst C (pc := 165) (v := 1) dX5_next_165 (by decide) ?_
  refine ps_istore_n C (pc := 166) (lv' := [(3, .int (1 : Int32)), (2, .int q9), (0, .ref (z_ad z 45)), (1, .int a1)]) dX5_next_166 (by decide) rfl ?_
  refine ps_aload_n C (pc := 167) dX5_next_167 2 rfl ?_
  refine ps_iconst C (pc := 168) (v := 0) dX5_next_168 (by decide) ?_
  refine pp_45_7 C (pc := 169) tw_803 dX5_next_169 h (fun σ10 h => ?_)
  obtain ⟨e20, he20, h⟩ := ps_bd h
  refine ps_sub [2, 1, 0] rfl ?_
  refine ps_loop (P := pX5_next_S172 z q9) (K := qX5_next_S172 z q9) (fun s r h k => tX5_next_S172 C Z q9  s r h k) _ _ _ he20 ?_
  unfold qX5_next_S172
  refine ps_aload_n C (pc := 273) dX5_next_273 0 rfl ?_
  refine ps_iload_n C (pc := 274) dX5_next_274 2 rfl ?_
  refine ps_if_eq C (pc := 275) 295 dX5_next_275 (by decide) (fun hc => ?_) (fun hc => ?_)
  · have h := ps_ift hc h
    exact ps_sub [] rfl (tX5_next_J295 C Z  h k)
  · have h := ps_iff hc h
    refine ps_iload_n C (pc := 278) dX5_next_278 1 rfl ?_
    refine ps_if_ne C (pc := 279) 299 dX5_next_279 (by decide) (fun hc => ?_) (fun hc => ?_)
    · have h := ps_iff hc h
      exact ps_sub [1] rfl (tX5_next_J299 C Z  h k)
    · have h := ps_ift hc h
      refine ps_aload_n C (pc := 282) dX5_next_282 0 rfl ?_
      refine pg_45_4 C (pc := 283) tw_800 dX5_next_283 ?_
      refine ps_aload_n C (pc := 286) dX5_next_286 0 rfl ?_
      refine pg_45_5 C (pc := 287) tw_801 dX5_next_287 ?_
      refine ps_isub C (pc := 290) dX5_next_290 ?_
      refine ps_iconst C (pc := 291) (v := 3) dX5_next_291 (by decide) ?_
      refine ps_icmp_le C (pc := 292) 299 dX5_next_292 (by decide) (fun hc => ?_) (fun hc => ?_)
      · have h := ps_ift hc h
        exact ps_sub [1] rfl (tX5_next_J299 C Z  h k)
      · have h := ps_iff hc h
        exact ps_sub [] rfl (tX5_next_J295 C Z  h k)
def fX5_next_J146 (u0 : Int32) (σ : ps_S) : Option (ps_S) :=
  (ps_let (ps_ui σ 45 6 u0) fun σ25 =>
  (ps_let (ps_ui σ25 45 4 ((σ25.1 45 4) + (1 : Int32))) fun σ26 =>
  some σ26))
set_option maxHeartbeats 4000000 in
set_option maxRecDepth 100000 in
theorem tX5_next_J146 {z : ps_X} (C : ps_C z cX5_next 5 "PartSumsModel") (Z : ps_Z z 1 21) {u0 : Int32} {σ : ps_S}  {r : ps_S} (h : fX5_next_J146 u0 σ = some r) (k : ps_KV z 5 cX5_next r) : ps_at z 5 146 [(0, .ref (z_ad z 45))] [.int u0, .ref (z_ad z 45)] σ := by
  unfold fX5_next_J146 at h
  refine pp_45_6 C (pc := 146) tw_802 dX5_next_146 h (fun σ25 h => ?_)
  refine ps_aload_n C (pc := 149) dX5_next_149 0 rfl ?_
  refine ps_dup C (pc := 150) dX5_next_150 rfl ?_
  refine pg_45_4 C (pc := 151) tw_800 dX5_next_151 ?_
  refine ps_iconst C (pc := 154) (v := 1) dX5_next_154 (by decide) ?_
  refine ps_iadd C (pc := 155) dX5_next_155 ?_
  refine pp_45_4 C (pc := 156) tw_800 dX5_next_156 h (fun σ26 h => ?_)
  obtain rfl := Option.some.inj h
  exact k _ _ dX5_next_159
def fX5_next_J93 (σ : ps_S) : Option (ps_S) :=
  (if (σ.1 45 4) < (σ.1 45 3) then (ps_ck (σ.1 45 4) 540 ((ps_let (σ.1 46 (Int32.toNatClampNeg (σ.1 45 4))) fun x7 =>
  ((fX5_isLetter x7).bind fun q8 =>
  (if q8 = 0 then ((fX5_isDigit x7).bind fun q24 =>
  (if q24 = 0 then (if x7 = (59 : Int32) then fX5_next_J146 (4 : Int32) σ
  else fX5_next_J146 (1 : Int32) σ)
  else fX5_next_J160 x7 σ))
  else fX5_next_J160 x7 σ)))))
  else (ps_let (ps_ui σ 45 6 (0 : Int32)) fun σ27 =>
  some σ27))
set_option maxHeartbeats 4000000 in
set_option maxRecDepth 100000 in
theorem tX5_next_J93 {z : ps_X} (C : ps_C z cX5_next 5 "PartSumsModel") (Z : ps_Z z 1 21) {σ : ps_S}  {r : ps_S} (h : fX5_next_J93 σ = some r) (k : ps_KV z 5 cX5_next r) : ps_at z 5 93 [(0, .ref (z_ad z 45))] [] σ := by
  unfold fX5_next_J93 at h
  refine ps_aload_n C (pc := 93) dX5_next_93 0 rfl ?_
  refine pg_45_4 C (pc := 94) tw_800 dX5_next_94 ?_
  refine ps_aload_n C (pc := 97) dX5_next_97 0 rfl ?_
  refine pg_45_3 C (pc := 98) tw_799 dX5_next_98 ?_
  refine ps_icmp_lt C (pc := 101) 110 dX5_next_101 (by decide) (fun hc => ?_) (fun hc => ?_)
  · have h := ps_ift hc h
    refine ps_aload_n C (pc := 110) dX5_next_110 0 rfl ?_
    refine pg_45_1 C (pc := 111) tw_797 dX5_next_111 ?_
    refine ps_aload_n C (pc := 114) dX5_next_114 0 rfl ?_
    refine pg_45_4 C (pc := 115) tw_800 dX5_next_115 ?_
    obtain ⟨hi6, h⟩ := ps_ck_s h
    refine ps_iald C (pc := 118) 46 rfl rfl hi6 dX5_next_118 ?_
    refine ps_istoreL_n C (pc := 119) (lw := fun x7 => [(1, .int x7), (0, .ref (z_ad z 45))]) dX5_next_119 (by decide) (fun _ => rfl) h (fun x7 h => ?_)
    refine ps_iload_n C (pc := 120) dX5_next_120 0 rfl ?_
    obtain ⟨q8, hq8, h⟩ := ps_bd h
    refine ps_callSI C Z (pc := 121) (As := [.int x7]) (mX5_isLetter  hq8) tw_878 tw_879 tw_70 tw_880 hdX5_isLetter rfl rfl ⟨by decide, by decide⟩ rfl (Nat.le_of_ble_eq_true rfl) dX5_next_121 rfl ?_
    refine ps_if_ne C (pc := 124) 160 dX5_next_124 (by decide) (fun hc => ?_) (fun hc => ?_)
    · have h := ps_iff hc h
      exact ps_sub [1, 0] rfl (tX5_next_J160 C Z  h k)
    · have h := ps_ift hc h
      refine ps_iload_n C (pc := 127) dX5_next_127 0 rfl ?_
      obtain ⟨q24, hq24, h⟩ := ps_bd h
      refine ps_callSI C Z (pc := 128) (As := [.int x7]) (mX5_isDigit  hq24) tw_881 tw_882 tw_70 tw_883 hdX5_isDigit rfl rfl ⟨by decide, by decide⟩ rfl (Nat.le_of_ble_eq_true rfl) dX5_next_128 rfl ?_
      refine ps_if_ne C (pc := 131) 160 dX5_next_131 (by decide) (fun hc => ?_) (fun hc => ?_)
      · have h := ps_iff hc h
        exact ps_sub [1, 0] rfl (tX5_next_J160 C Z  h k)
      · have h := ps_ift hc h
        refine ps_aload_n C (pc := 134) dX5_next_134 1 rfl ?_
        refine ps_iload_n C (pc := 135) dX5_next_135 0 rfl ?_
        refine ps_bipush C (pc := 136) (v := 59) dX5_next_136 (by decide) ?_
        refine ps_icmp_ne C (pc := 138) 145 dX5_next_138 (by decide) (fun hc => ?_) (fun hc => ?_)
        · have h := ps_iff hc h
          refine ps_iconst C (pc := 145) (v := 1) dX5_next_145 (by decide) ?_
          exact ps_sub [1] rfl (tX5_next_J146 C Z  h k)
        · have h := ps_ift hc h
          refine ps_iconst C (pc := 141) (v := 4) dX5_next_141 (by decide) ?_
          refine ps_goto C (pc := 142) 146 dX5_next_142 (by decide) ?_
          exact ps_sub [1] rfl (tX5_next_J146 C Z  h k)
  · have h := ps_iff hc h
    refine ps_aload_n C (pc := 104) dX5_next_104 0 rfl ?_
    refine ps_iconst C (pc := 105) (v := 0) dX5_next_105 (by decide) ?_
    refine pp_45_6 C (pc := 106) tw_802 dX5_next_106 h (fun σ27 h => ?_)
    obtain rfl := Option.some.inj h
    exact k _ _ dX5_next_109
def fX5_next_J52 (σ : ps_S) : Option (ps_S) :=
  (ps_let (ps_ui σ 45 5 (σ.1 45 4)) fun σ5 =>
  (if (σ5.1 45 3) ≤ (500 : Int32) then fX5_next_J93 σ5
  else (if (σ5.1 45 5) < (500 : Int32) then fX5_next_J93 σ5
  else (ps_let (ps_ui σ5 45 5 (500 : Int32)) fun σ28 =>
  (ps_let (ps_ui σ28 45 6 (1 : Int32)) fun σ29 =>
  some σ29)))))
set_option maxHeartbeats 4000000 in
set_option maxRecDepth 100000 in
theorem tX5_next_J52 {z : ps_X} (C : ps_C z cX5_next 5 "PartSumsModel") (Z : ps_Z z 1 21) {σ : ps_S}  {r : ps_S} (h : fX5_next_J52 σ = some r) (k : ps_KV z 5 cX5_next r) : ps_at z 5 52 [(0, .ref (z_ad z 45))] [] σ := by
  unfold fX5_next_J52 at h
  refine ps_aload_n C (pc := 52) dX5_next_52 0 rfl ?_
  refine ps_aload_n C (pc := 53) dX5_next_53 0 rfl ?_
  refine pg_45_4 C (pc := 54) tw_800 dX5_next_54 ?_
  refine pp_45_5 C (pc := 57) tw_801 dX5_next_57 h (fun σ5 h => ?_)
  refine ps_aload_n C (pc := 60) dX5_next_60 0 rfl ?_
  refine pg_45_3 C (pc := 61) tw_799 dX5_next_61 ?_
  refine ps_sipush C (pc := 64) (v := 500) dX5_next_64 (by decide) ?_
  refine ps_icmp_le C (pc := 67) 93 dX5_next_67 (by decide) (fun hc => ?_) (fun hc => ?_)
  · have h := ps_ift hc h
    exact ps_sub [0] rfl (tX5_next_J93 C Z  h k)
  · have h := ps_iff hc h
    refine ps_aload_n C (pc := 70) dX5_next_70 0 rfl ?_
    refine pg_45_5 C (pc := 71) tw_801 dX5_next_71 ?_
    refine ps_sipush C (pc := 74) (v := 500) dX5_next_74 (by decide) ?_
    refine ps_icmp_lt C (pc := 77) 93 dX5_next_77 (by decide) (fun hc => ?_) (fun hc => ?_)
    · have h := ps_ift hc h
      exact ps_sub [0] rfl (tX5_next_J93 C Z  h k)
    · have h := ps_iff hc h
      refine ps_aload_n C (pc := 80) dX5_next_80 0 rfl ?_
      refine ps_sipush C (pc := 81) (v := 500) dX5_next_81 (by decide) ?_
      refine pp_45_5 C (pc := 84) tw_801 dX5_next_84 h (fun σ28 h => ?_)
      refine ps_aload_n C (pc := 87) dX5_next_87 0 rfl ?_
      refine ps_iconst C (pc := 88) (v := 1) dX5_next_88 (by decide) ?_
      refine pp_45_6 C (pc := 89) tw_802 dX5_next_89 h (fun σ29 h => ?_)
      obtain rfl := Option.some.inj h
      exact k _ _ dX5_next_92
def fX5_next (σ : ps_S) : Option (ps_S) :=
  ((ps_lp (fun s => fX5_next_S0  s) 100000 σ).bind fun e4 =>
  fX5_next_J52 e4)
set_option maxHeartbeats 4000000 in
set_option maxRecDepth 100000 in
theorem tX5_next {z : ps_X} (C : ps_C z cX5_next 5 "PartSumsModel") (Z : ps_Z z 1 21) {σ : ps_S}  {r : ps_S} (h : fX5_next σ = some r) (k : ps_KV z 5 cX5_next r) : ps_at z 5 0 [(0, .ref (z_ad z 45))] [] σ := by
  unfold fX5_next at h
  obtain ⟨e4, he4, h⟩ := ps_bd h
  refine ps_sub [0] rfl ?_
  refine ps_loop (P := pX5_next_S0 z ) (K := qX5_next_S0 z ) (fun s r h k => tX5_next_S0 C Z   s r h k) _ _ _ he4 ?_
  unfold qX5_next_S0
  exact ps_sub [0] rfl (tX5_next_J52 C Z  h k)
def rmX5_next : Room := { frames := 1, cells := 0, slots := 0, locals := 21 }
theorem mX5_next {l : Launch} {E : ps_E} {σ : ps_S}  {r : ps_S}  (h : fX5_next σ = some r) : ps_MV l yX5_next (ps_wm yX5_next cX5_next 5 none) rmX5_next [.ref (e_ad E 45)] E σ r :=
  ps_metV yX5_next rmX5_next 5 (own := "PartSumsModel")  (by decide +kernel) rfl (Nat.le_of_ble_eq_true rfl) rfl (fun z e1 e2 e3 e4 e5 C k => by
    subst e5
    exact tX5_next C (ps_Zof e1 e3 e4)  h k)
theorem hdX5_next : yX5_next.cls ≠ "java/lang/invoke/MethodHandle" ∧ yX5_next.cls ≠ "java/lang/invoke/VarHandle" ∧ (parseMethodDescriptor yX5_next.desc).map (fun d => d.parameters.length) = some 0 := by decide +kernel
def pX5_isWord_S49 (z : ps_X) (a1 : Int32) (a2 : Int32) (a3 : Int32) (a4 : Int32) (a5 : Int32) (a6 : Int32) (a7 : Int32) (σ : ps_S) (s : Int32) : Prop := ps_at z 9 49 [(0, .ref (z_ad z 45)), (1, .int a1), (2, .int a2), (3, .int a3), (4, .int a4), (5, .int a5), (6, .int a6), (7, .int a7), (8, .int s)] [] σ
def qX5_isWord_S49 (z : ps_X) (a1 : Int32) (a2 : Int32) (a3 : Int32) (a4 : Int32) (a5 : Int32) (a6 : Int32) (a7 : Int32) (σ : ps_S) (x : (Unit) ⊕ (Unit)) : Prop := match x with | .inl y => ps_at z 9 124 [] [] σ | .inr y => ps_at z 9 132 [] [] σ
def fX5_isWord_J121 (a1 : Int32) (a2 : Int32) (a3 : Int32) (a4 : Int32) (a5 : Int32) (a6 : Int32) (a7 : Int32) (a8 : Int32) (u0 : Int32) (u1 : Int32) (σ : ps_S) : Option ((Int32) ⊕ ((Unit) ⊕ (Unit))) :=
  (if u1 = u0 then (ps_let (a8 + (1 : Int32)) fun x2 =>
  some (.inl x2))
  else some (.inr (.inl ())))
set_option maxHeartbeats 4000000 in
set_option maxRecDepth 100000 in
theorem tX5_isWord_J121 {z : ps_X} (C : ps_C z cX5_isWord 9 "PartSumsModel") (Z : ps_Z z 0 0) {a1 : Int32} {a2 : Int32} {a3 : Int32} {a4 : Int32} {a5 : Int32} {a6 : Int32} {a7 : Int32} {a8 : Int32} {u0 : Int32} {u1 : Int32} {σ : ps_S}  {r : (Int32) ⊕ ((Unit) ⊕ (Unit))} (h : fX5_isWord_J121 a1 a2 a3 a4 a5 a6 a7 a8 u0 u1 σ = some r) (k : ps_k (pX5_isWord_S49 z a1 a2 a3 a4 a5 a6 a7 σ) (qX5_isWord_S49 z a1 a2 a3 a4 a5 a6 a7 σ) r) : ps_at z 9 121 [(0, .ref (z_ad z 45)), (1, .int a1), (2, .int a2), (3, .int a3), (4, .int a4), (5, .int a5), (6, .int a6), (7, .int a7), (8, .int a8)] [.int u0, .int u1] σ := by
  unfold fX5_isWord_J121 at h
  refine ps_icmp_eq C (pc := 121) 126 dX5_isWord_121 (by decide) (fun hc => ?_) (fun hc => ?_)
  · have h := ps_ift hc h
    refine ps_iincL C (pc := 126) (zz := 1) (lw := fun x2 => [(8, .int x2), (0, .ref (z_ad z 45)), (1, .int a1), (2, .int a2), (3, .int a3), (4, .int a4), (5, .int a5), (6, .int a6), (7, .int a7)]) dX5_isWord_126 8 rfl (by decide) (by decide) (fun _ => rfl) h (fun x2 h => ?_)
    refine ps_goto C (pc := 129) 49 dX5_isWord_129 (by decide) ?_
    obtain rfl := Option.some.inj h
    exact ps_sub [1, 2, 3, 4, 5, 6, 7, 8, 0] rfl k
  · have h := ps_iff hc h
    obtain rfl := Option.some.inj h
    exact ps_sub [] rfl k
def fX5_isWord_S49 (a1 : Int32) (a2 : Int32) (a3 : Int32) (a4 : Int32) (a5 : Int32) (a6 : Int32) (a7 : Int32) (σ : ps_S) (a8 : Int32) : Option ((Int32) ⊕ ((Unit) ⊕ (Unit))) :=
  (if a7 ≤ a8 then some (.inr (.inr ()))
  else (ps_ck ((σ.1 45 5) + a8) 540 ((if a8 = 0 then fX5_isWord_J121 a1 a2 a3 a4 a5 a6 a7 a8 a1 (σ.1 46 (Int32.toNatClampNeg ((σ.1 45 5) + a8))) σ
  else (if a8 = (1 : Int32) then fX5_isWord_J121 a1 a2 a3 a4 a5 a6 a7 a8 a2 (σ.1 46 (Int32.toNatClampNeg ((σ.1 45 5) + a8))) σ
  else (if a8 = (2 : Int32) then fX5_isWord_J121 a1 a2 a3 a4 a5 a6 a7 a8 a3 (σ.1 46 (Int32.toNatClampNeg ((σ.1 45 5) + a8))) σ
  else (if a8 = (3 : Int32) then fX5_isWord_J121 a1 a2 a3 a4 a5 a6 a7 a8 a4 (σ.1 46 (Int32.toNatClampNeg ((σ.1 45 5) + a8))) σ
  else (if a8 = (4 : Int32) then fX5_isWord_J121 a1 a2 a3 a4 a5 a6 a7 a8 a5 (σ.1 46 (Int32.toNatClampNeg ((σ.1 45 5) + a8))) σ
  else fX5_isWord_J121 a1 a2 a3 a4 a5 a6 a7 a8 a6 (σ.1 46 (Int32.toNatClampNeg ((σ.1 45 5) + a8))) σ))))))))
set_option maxHeartbeats 4000000 in
set_option maxRecDepth 100000 in
theorem tX5_isWord_S49 {z : ps_X} (C : ps_C z cX5_isWord 9 "PartSumsModel") (Z : ps_Z z 0 0) (a1 : Int32) (a2 : Int32) (a3 : Int32) (a4 : Int32) (a5 : Int32) (a6 : Int32) (a7 : Int32) (σ : ps_S)  (s : Int32) (r : (Int32) ⊕ ((Unit) ⊕ (Unit))) (h : fX5_isWord_S49 a1 a2 a3 a4 a5 a6 a7 σ s = some r) (k : ps_k (pX5_isWord_S49 z a1 a2 a3 a4 a5 a6 a7 σ) (qX5_isWord_S49 z a1 a2 a3 a4 a5 a6 a7 σ) r) : pX5_isWord_S49 z a1 a2 a3 a4 a5 a6 a7 σ s := by
  generalize s = a8 at h ⊢
  unfold fX5_isWord_S49 at h
  unfold pX5_isWord_S49
  refine ps_iload C (pc := 49) dX5_isWord_49 8 rfl ?_
  refine ps_iload C (pc := 51) dX5_isWord_51 7 rfl ?_
  refine ps_icmp_ge C (pc := 53) 132 dX5_isWord_53 (by decide) (fun hc => ?_) (fun hc => ?_)
  · have h := ps_ift hc h
    obtain rfl := Option.some.inj h
    exact ps_sub [] rfl k
  · have h := ps_iff hc h
    refine ps_aload_n C (pc := 56) dX5_isWord_56 0 rfl ?_
    refine pg_45_1 C (pc := 57) tw_797 dX5_isWord_57 ?_
    refine ps_aload_n C (pc := 60) dX5_isWord_60 0 rfl ?_
    refine pg_45_5 C (pc := 61) tw_801 dX5_isWord_61 ?_
    refine ps_iload C (pc := 64) dX5_isWord_64 8 rfl ?_
    refine ps_iadd C (pc := 66) dX5_isWord_66 ?_
    obtain ⟨hi1, h⟩ := ps_ck_s h
    refine ps_iald C (pc := 67) 46 rfl rfl hi1 dX5_isWord_67 ?_
    refine ps_iload C (pc := 68) dX5_isWord_68 8 rfl ?_
    refine ps_if_ne C (pc := 70) 77 dX5_isWord_70 (by decide) (fun hc => ?_) (fun hc => ?_)
    · have h := ps_iff hc h
      refine ps_iload C (pc := 77) dX5_isWord_77 8 rfl ?_
      refine ps_iconst C (pc := 79) (v := 1) dX5_isWord_79 (by decide) ?_
      refine ps_icmp_ne C (pc := 80) 87 dX5_isWord_80 (by decide) (fun hc => ?_) (fun hc => ?_)
      · have h := ps_iff hc h
        refine ps_iload C (pc := 87) dX5_isWord_87 8 rfl ?_
        refine ps_iconst C (pc := 89) (v := 2) dX5_isWord_89 (by decide) ?_
        refine ps_icmp_ne C (pc := 90) 97 dX5_isWord_90 (by decide) (fun hc => ?_) (fun hc => ?_)
        · have h := ps_iff hc h
          refine ps_iload C (pc := 97) dX5_isWord_97 8 rfl ?_
          refine ps_iconst C (pc := 99) (v := 3) dX5_isWord_99 (by decide) ?_
          refine ps_icmp_ne C (pc := 100) 108 dX5_isWord_100 (by decide) (fun hc => ?_) (fun hc => ?_)
          · have h := ps_iff hc h
            refine ps_iload C (pc := 108) dX5_isWord_108 8 rfl ?_
            refine ps_iconst C (pc := 110) (v := 4) dX5_isWord_110 (by decide) ?_
            refine ps_icmp_ne C (pc := 111) 119 dX5_isWord_111 (by decide) (fun hc => ?_) (fun hc => ?_)
            · have h := ps_iff hc h
              refine ps_iload C (pc := 119) dX5_isWord_119 6 rfl ?_
              exact ps_sub [0, 1, 2, 3, 4, 5, 6, 7, 8] rfl (tX5_isWord_J121 C Z  h k)
            · have h := ps_ift hc h
              refine ps_iload C (pc := 114) dX5_isWord_114 5 rfl ?_
              refine ps_goto C (pc := 116) 121 dX5_isWord_116 (by decide) ?_
              exact ps_sub [0, 1, 2, 3, 4, 5, 6, 7, 8] rfl (tX5_isWord_J121 C Z  h k)
          · have h := ps_ift hc h
            refine ps_iload C (pc := 103) dX5_isWord_103 4 rfl ?_
            refine ps_goto C (pc := 105) 121 dX5_isWord_105 (by decide) ?_
            exact ps_sub [0, 1, 2, 3, 4, 5, 6, 7, 8] rfl (tX5_isWord_J121 C Z  h k)
        · have h := ps_ift hc h
          refine ps_iload_n C (pc := 93) dX5_isWord_93 3 rfl ?_
          refine ps_goto C (pc := 94) 121 dX5_isWord_94 (by decide) ?_
          exact ps_sub [0, 1, 2, 3, 4, 5, 6, 7, 8] rfl (tX5_isWord_J121 C Z  h k)
      · have h := ps_ift hc h
        refine ps_iload_n C (pc := 83) dX5_isWord_83 2 rfl ?_
        refine ps_goto C (pc := 84) 121 dX5_isWord_84 (by decide) ?_
        exact ps_sub [0, 1, 2, 3, 4, 5, 6, 7, 8] rfl (tX5_isWord_J121 C Z  h k)
    · have h := ps_ift hc h
      refine ps_iload_n C (pc := 73) dX5_isWord_73 1 rfl ?_
      refine ps_goto C (pc := 74) 121 dX5_isWord_74 (by decide) ?_
      exact ps_sub [0, 1, 2, 3, 4, 5, 6, 7, 8] rfl (tX5_isWord_J121 C Z  h k)
def fX5_isWord_J20 (a1 : Int32) (a2 : Int32) (a3 : Int32) (a4 : Int32) (a5 : Int32) (a6 : Int32) (u0 : Int32) (σ : ps_S) : Option (Int32) :=
  (if (σ.1 45 6) = (2 : Int32) then (if ((σ.1 45 4) - (σ.1 45 5)) = u0 then ((ps_lp (fun s => fX5_isWord_S49 a1 a2 a3 a4 a5 a6 u0 σ s) 100000 (0 : Int32)).bind fun e3 =>
  match e3 with | .inl y4 => some (0 : Int32) | .inr y5 => some (1 : Int32))
  else some (0 : Int32))
  else some (0 : Int32))
set_option maxHeartbeats 4000000 in
set_option maxRecDepth 100000 in
theorem tX5_isWord_J20 {z : ps_X} (C : ps_C z cX5_isWord 9 "PartSumsModel") (Z : ps_Z z 0 0) {a1 : Int32} {a2 : Int32} {a3 : Int32} {a4 : Int32} {a5 : Int32} {a6 : Int32} {u0 : Int32} {σ : ps_S}  {r : Int32} (h : fX5_isWord_J20 a1 a2 a3 a4 a5 a6 u0 σ = some r) (k : ps_KZ z 9 cX5_isWord r σ) : ps_at z 9 20 [(0, .ref (z_ad z 45)), (1, .int a1), (2, .int a2), (3, .int a3), (4, .int a4), (5, .int a5), (6, .int a6)] [.int u0] σ := by
  unfold fX5_isWord_J20 at h
  refine ps_istore C (pc := 20) (lv' := [(7, .int u0), (0, .ref (z_ad z 45)), (1, .int a1), (2, .int a2), (3, .int a3), (4, .int a4), (5, .int a5), (6, .int a6)]) dX5_isWord_20 (by decide) rfl ?_
  refine ps_aload_n C (pc := 22) dX5_isWord_22 1 rfl ?_
  refine pg_45_6 C (pc := 23) tw_802 dX5_isWord_23 ?_
  refine ps_iconst C (pc := 26) (v := 2) dX5_isWord_26 (by decide) ?_
  refine ps_icmp_ne C (pc := 27) 44 dX5_isWord_27 (by decide) (fun hc => ?_) (fun hc => ?_)
  · have h := ps_iff hc h
    refine ps_iconst C (pc := 44) (v := 0) dX5_isWord_44 (by decide) ?_
    obtain rfl := Option.some.inj h
    exact k _ _ (Or.inl rfl) dX5_isWord_45
  · have h := ps_ift hc h
    refine ps_aload_n C (pc := 30) dX5_isWord_30 1 rfl ?_
    refine pg_45_4 C (pc := 31) tw_800 dX5_isWord_31 ?_
    refine ps_aload_n C (pc := 34) dX5_isWord_34 1 rfl ?_
    refine pg_45_5 C (pc := 35) tw_801 dX5_isWord_35 ?_
    refine ps_isub C (pc := 38) dX5_isWord_38 ?_
    refine ps_iload C (pc := 39) dX5_isWord_39 0 rfl ?_
    refine ps_icmp_eq C (pc := 41) 46 dX5_isWord_41 (by decide) (fun hc => ?_) (fun hc => ?_)
    · have h := ps_ift hc h
      refine ps_iconst C (pc := 46) (v := 0) dX5_isWord_46 (by decide) ?_
      refine ps_istore C (pc := 47) (lv' := [(8, .int (0 : Int32)), (7, .int u0), (0, .ref (z_ad z 45)), (1, .int a1), (2, .int a2), (3, .int a3), (4, .int a4), (5, .int a5), (6, .int a6)]) dX5_isWord_47 (by decide) rfl ?_
      obtain ⟨e3, he3, h⟩ := ps_bd h
      refine ps_sub [2, 3, 4, 5, 6, 7, 8, 1, 0] rfl ?_
      refine ps_loop (P := pX5_isWord_S49 z a1 a2 a3 a4 a5 a6 u0 σ) (K := qX5_isWord_S49 z a1 a2 a3 a4 a5 a6 u0 σ) (fun s r h k => tX5_isWord_S49 C Z a1 a2 a3 a4 a5 a6 u0 σ  s r h k) _ _ _ he3 ?_
      unfold qX5_isWord_S49
      rcases e3 with y4 | w_y4
      · refine ps_iconst C (pc := 124) (v := 0) dX5_isWord_124 (by decide) ?_
        obtain rfl := Option.some.inj h
        exact k _ _ (Or.inl rfl) dX5_isWord_125
      · generalize w_y4 = y5 at h ⊢
        refine ps_iconst C (pc := 132) (v := 1) dX5_isWord_132 (by decide) ?_
        obtain rfl := Option.some.inj h
        exact k _ _ (Or.inr rfl) dX5_isWord_133
    · have h := ps_iff hc h
      refine ps_iconst C (pc := 44) (v := 0) dX5_isWord_44 (by decide) ?_
      obtain rfl := Option.some.inj h
      exact k _ _ (Or.inl rfl) dX5_isWord_45
def fX5_isWord (a1 : Int32) (a2 : Int32) (a3 : Int32) (a4 : Int32) (a5 : Int32) (a6 : Int32) (σ : ps_S) : Option (Int32) :=
  (if a4 = 0 then fX5_isWord_J20 a1 a2 a3 a4 a5 a6 (3 : Int32) σ
  else (if a5 = 0 then fX5_isWord_J20 a1 a2 a3 a4 a5 a6 (4 : Int32) σ
  else fX5_isWord_J20 a1 a2 a3 a4 a5 a6 (6 : Int32) σ))
set_option maxHeartbeats 4000000 in
set_option maxRecDepth 100000 in
theorem tX5_isWord {z : ps_X} (C : ps_C z cX5_isWord 9 "PartSumsModel") (Z : ps_Z z 0 0) {a1 : Int32} {a2 : Int32} {a3 : Int32} {a4 : Int32} {a5 : Int32} {a6 : Int32} {σ : ps_S}  {r : Int32} (h : fX5_isWord a1 a2 a3 a4 a5 a6 σ = some r) (k : ps_KZ z 9 cX5_isWord r σ) : ps_at z 9 0 [(0, .ref (z_ad z 45)), (1, .int a1), (2, .int a2), (3, .int a3), (4, .int a4), (5, .int a5), (6, .int a6)] [] σ := by
  unfold fX5_isWord at h
  refine ps_iload C (pc := 0) dX5_isWord_0 4 rfl ?_
  refine ps_if_ne C (pc := 2) 9 dX5_isWord_2 (by decide) (fun hc => ?_) (fun hc => ?_)
  · have h := ps_iff hc h
    refine ps_iload C (pc := 9) dX5_isWord_9 5 rfl ?_
    refine ps_if_ne C (pc := 11) 18 dX5_isWord_11 (by decide) (fun hc => ?_) (fun hc => ?_)
    · have h := ps_iff hc h
      refine ps_bipush C (pc := 18) (v := 6) dX5_isWord_18 (by decide) ?_
      exact ps_sub [0, 1, 2, 3, 4, 5, 6] rfl (tX5_isWord_J20 C Z  h k)
    · have h := ps_ift hc h
      refine ps_iconst C (pc := 14) (v := 4) dX5_isWord_14 (by decide) ?_
      refine ps_goto C (pc := 15) 20 dX5_isWord_15 (by decide) ?_
      exact ps_sub [0, 1, 2, 3, 4, 5, 6] rfl (tX5_isWord_J20 C Z  h k)
  · have h := ps_ift hc h
    refine ps_iconst C (pc := 5) (v := 3) dX5_isWord_5 (by decide) ?_
    refine ps_goto C (pc := 6) 20 dX5_isWord_6 (by decide) ?_
    exact ps_sub [0, 1, 2, 3, 4, 5, 6] rfl (tX5_isWord_J20 C Z  h k)
def rmX5_isWord : Room := { frames := 0, cells := 0, slots := 0, locals := 0 }
theorem mX5_isWord {l : Launch} {E : ps_E} {σ : ps_S} {a1 : Int32} {a2 : Int32} {a3 : Int32} {a4 : Int32} {a5 : Int32} {a6 : Int32} {r : Int32}  (h : fX5_isWord a1 a2 a3 a4 a5 a6 σ = some r) : ps_MI l yX5_isWord (ps_wm yX5_isWord cX5_isWord 9 (some .boolean)) rmX5_isWord [.ref (e_ad E 45), .int a1, .int a2, .int a3, .int a4, .int a5, .int a6] E σ r σ :=
  ps_metZ yX5_isWord rmX5_isWord 9 (own := "PartSumsModel") r (by decide +kernel) rfl (Nat.le_of_ble_eq_true rfl) rfl (fun z e1 e2 e3 e4 e5 C k => by
    subst e5
    exact tX5_isWord C (ps_Zof e1 e3 e4)  h k)
theorem hdX5_isWord : yX5_isWord.cls ≠ "java/lang/invoke/MethodHandle" ∧ yX5_isWord.cls ≠ "java/lang/invoke/VarHandle" ∧ (parseMethodDescriptor yX5_isWord.desc).map (fun d => d.parameters.length) = some 6 := by decide +kernel
def fX5_bad_J14 (u0 : Int32) (σ : ps_S) : Option (Int32 × ps_S) :=
  (ps_let (ps_ui σ 45 8 u0) fun σ1 =>
  (ps_let (ps_ui σ1 45 9 (σ1.1 45 5)) fun σ2 =>
  some ((0 : Int32), σ2)))
set_option maxHeartbeats 4000000 in
set_option maxRecDepth 100000 in
theorem tX5_bad_J14 {z : ps_X} (C : ps_C z cX5_bad 2 "PartSumsModel") (Z : ps_Z z 0 0) {u0 : Int32} {σ : ps_S}  {r : Int32 × ps_S} (h : fX5_bad_J14 u0 σ = some r) (k : ps_KZ z 2 cX5_bad r.1 r.2) : ps_at z 2 14 [(0, .ref (z_ad z 45))] [.int u0, .ref (z_ad z 45)] σ := by
  unfold fX5_bad_J14 at h
  refine pp_45_8 C (pc := 14) tw_804 dX5_bad_14 h (fun σ1 h => ?_)
  refine ps_aload_n C (pc := 17) dX5_bad_17 0 rfl ?_
  refine ps_aload_n C (pc := 18) dX5_bad_18 0 rfl ?_
  refine pg_45_5 C (pc := 19) tw_801 dX5_bad_19 ?_
  refine pp_45_9 C (pc := 22) tw_805 dX5_bad_22 h (fun σ2 h => ?_)
  refine ps_iconst C (pc := 25) (v := 0) dX5_bad_25 (by decide) ?_
  obtain rfl := Option.some.inj h
  exact k _ _ (Or.inl rfl) dX5_bad_26
def fX5_bad (a1 : Int32) (σ : ps_S) : Option (Int32 × ps_S) :=
  (if (σ.1 45 6) = (1 : Int32) then fX5_bad_J14 (1 : Int32) σ
  else fX5_bad_J14 a1 σ)
set_option maxHeartbeats 4000000 in
set_option maxRecDepth 100000 in
theorem tX5_bad {z : ps_X} (C : ps_C z cX5_bad 2 "PartSumsModel") (Z : ps_Z z 0 0) {a1 : Int32} {σ : ps_S}  {r : Int32 × ps_S} (h : fX5_bad a1 σ = some r) (k : ps_KZ z 2 cX5_bad r.1 r.2) : ps_at z 2 0 [(0, .ref (z_ad z 45)), (1, .int a1)] [] σ := by
  unfold fX5_bad at h
  refine ps_aload_n C (pc := 0) dX5_bad_0 0 rfl ?_
  refine ps_aload_n C (pc := 1) dX5_bad_1 0 rfl ?_
  refine pg_45_6 C (pc := 2) tw_802 dX5_bad_2 ?_
  refine ps_iconst C (pc := 5) (v := 1) dX5_bad_5 (by decide) ?_
  refine ps_icmp_ne C (pc := 6) 13 dX5_bad_6 (by decide) (fun hc => ?_) (fun hc => ?_)
  · have h := ps_iff hc h
    refine ps_iload_n C (pc := 13) dX5_bad_13 1 rfl ?_
    exact ps_sub [0] rfl (tX5_bad_J14 C Z  h k)
  · have h := ps_ift hc h
    refine ps_iconst C (pc := 9) (v := 1) dX5_bad_9 (by decide) ?_
    refine ps_goto C (pc := 10) 14 dX5_bad_10 (by decide) ?_
    exact ps_sub [0] rfl (tX5_bad_J14 C Z  h k)
def rmX5_bad : Room := { frames := 0, cells := 0, slots := 0, locals := 0 }
theorem mX5_bad {l : Launch} {E : ps_E} {σ : ps_S} {a1 : Int32} {r : Int32 × ps_S}  (h : fX5_bad a1 σ = some r) : ps_MI l yX5_bad (ps_wm yX5_bad cX5_bad 2 (some .boolean)) rmX5_bad [.ref (e_ad E 45), .int a1] E σ r.1 r.2 :=
  ps_metZ yX5_bad rmX5_bad 2 (own := "PartSumsModel") r.1 (by decide +kernel) rfl (Nat.le_of_ble_eq_true rfl) rfl (fun z e1 e2 e3 e4 e5 C k => by
    subst e5
    exact tX5_bad C (ps_Zof e1 e3 e4)  h k)
theorem hdX5_bad : yX5_bad.cls ≠ "java/lang/invoke/MethodHandle" ∧ yX5_bad.cls ≠ "java/lang/invoke/VarHandle" ∧ (parseMethodDescriptor yX5_bad.desc).map (fun d => d.parameters.length) = some 1 := by decide +kernel
def pX5_copy_S3 (z : ps_X) (k0 : Nat) (a1 : Int32) (k2 : Nat) (a3 : Int32) (s : Int32 × ps_S) : Prop := ps_at z 5 3 [(0, .ref (z_ad z k0)), (1, .int a1), (2, .ref (z_ad z k2)), (3, .int a3), (4, .int s.1)] [] s.2
def qX5_copy_S3 (z : ps_X) (k0 : Nat) (a1 : Int32) (k2 : Nat) (a3 : Int32) (x : (ps_S)) : Prop := match x with | y => ps_at z 5 29 [] [] y
def fX5_copy_S3 (k0 : Nat) (a1 : Int32) (k2 : Nat) (a3 : Int32) (a4 : Int32) (σ : ps_S) : Option ((Int32 × ps_S) ⊕ ((ps_S))) :=
  (if (1289 : Int32) ≤ a4 then some (.inr σ)
  else (ps_ck (a1 + a4) (ps_ln k0) ((ps_ck (a3 + a4) (ps_ln k2) ((ps_let (ps_ui σ k2 (Int32.toNatClampNeg (a3 + a4)) (σ.1 k0 (Int32.toNatClampNeg (a1 + a4)))) fun σ3 =>
  (ps_let (a4 + (1 : Int32)) fun x4 =>
  some (.inl (x4, σ3)))))))))
set_option maxHeartbeats 4000000 in
set_option maxRecDepth 100000 in
theorem tX5_copy_S3 {z : ps_X} (C : ps_C z cX5_copy 5 "PartSumsModel") (Z : ps_Z z 0 0) (k0 : Nat) (a1 : Int32) (k2 : Nat) (a3 : Int32) (hk0 : ps_kd k0 = 1) (hk2 : ps_kd k2 = 1) (s : Int32 × ps_S) (r : (Int32 × ps_S) ⊕ ((ps_S))) (h : fX5_copy_S3 k0 a1 k2 a3 s.1 s.2 = some r) (k : ps_k (pX5_copy_S3 z k0 a1 k2 a3) (qX5_copy_S3 z k0 a1 k2 a3) r) : pX5_copy_S3 z k0 a1 k2 a3 s := by
  obtain ⟨a4, σ⟩ := s
  unfold fX5_copy_S3 at h
  unfold pX5_copy_S3
  refine ps_iload C (pc := 3) dX5_copy_3 4 rfl ?_
  refine ps_sipush C (pc := 5) (v := 1289) dX5_copy_5 (by decide) ?_
  refine ps_icmp_ge C (pc := 8) 29 dX5_copy_8 (by decide) (fun hc => ?_) (fun hc => ?_)
  · have h := ps_ift hc h
    obtain rfl := Option.some.inj h
    exact ps_sub [] rfl k
  · have h := ps_iff hc h
    refine ps_aload_n C (pc := 11) dX5_copy_11 2 rfl ?_
    refine ps_iload_n C (pc := 12) dX5_copy_12 3 rfl ?_
    refine ps_iload C (pc := 13) dX5_copy_13 4 rfl ?_
    refine ps_iadd C (pc := 15) dX5_copy_15 ?_
    refine ps_aload_n C (pc := 16) dX5_copy_16 0 rfl ?_
    refine ps_iload_n C (pc := 17) dX5_copy_17 1 rfl ?_
    refine ps_iload C (pc := 18) dX5_copy_18 4 rfl ?_
    refine ps_iadd C (pc := 20) dX5_copy_20 ?_
    obtain ⟨hi1, h⟩ := ps_ck_s h
    refine ps_iald C (pc := 21) k0 hk0 rfl hi1 dX5_copy_21 ?_
    obtain ⟨hi2, h⟩ := ps_ck_s h
    refine ps_iastL C (pc := 22) k2 hk2 rfl hi2 dX5_copy_22 h (fun σ3 h => ?_)
    refine ps_iincL C (pc := 23) (zz := 1) (lw := fun x4 => [(4, .int x4), (0, .ref (z_ad z k0)), (1, .int a1), (2, .ref (z_ad z k2)), (3, .int a3)]) dX5_copy_23 4 rfl (by decide) (by decide) (fun _ => rfl) h (fun x4 h => ?_)
    refine ps_goto C (pc := 26) 3 dX5_copy_26 (by decide) ?_
    obtain rfl := Option.some.inj h
    exact ps_sub [1, 2, 3, 4, 0] rfl k
def fX5_copy (k0 : Nat) (a1 : Int32) (k2 : Nat) (a3 : Int32) (σ : ps_S) : Option (ps_S) :=
  ((ps_lp (fun s => fX5_copy_S3 k0 a1 k2 a3 s.1 s.2) 100000 ((0 : Int32), σ)).bind fun e5 =>
  some e5)
set_option maxHeartbeats 4000000 in
set_option maxRecDepth 100000 in
theorem tX5_copy {z : ps_X} (C : ps_C z cX5_copy 5 "PartSumsModel") (Z : ps_Z z 0 0) {k0 : Nat} {a1 : Int32} {k2 : Nat} {a3 : Int32} {σ : ps_S} (hk0 : ps_kd k0 = 1) (hk2 : ps_kd k2 = 1) {r : ps_S} (h : fX5_copy k0 a1 k2 a3 σ = some r) (k : ps_KV z 5 cX5_copy r) : ps_at z 5 0 [(0, .ref (z_ad z k0)), (1, .int a1), (2, .ref (z_ad z k2)), (3, .int a3)] [] σ := by
  unfold fX5_copy at h
  refine ps_iconst C (pc := 0) (v := 0) dX5_copy_0 (by decide) ?_
  refine ps_istore C (pc := 1) (lv' := [(4, .int (0 : Int32)), (0, .ref (z_ad z k0)), (1, .int a1), (2, .ref (z_ad z k2)), (3, .int a3)]) dX5_copy_1 (by decide) rfl ?_
  obtain ⟨e5, he5, h⟩ := ps_bd h
  refine ps_sub [1, 2, 3, 4, 0] rfl ?_
  refine ps_loop (P := pX5_copy_S3 z k0 a1 k2 a3) (K := qX5_copy_S3 z k0 a1 k2 a3) (fun s r h k => tX5_copy_S3 C Z k0 a1 k2 a3 hk0 hk2 s r h k) _ _ _ he5 ?_
  unfold qX5_copy_S3
  obtain rfl := Option.some.inj h
  exact k _ _ dX5_copy_29
def rmX5_copy : Room := { frames := 0, cells := 0, slots := 0, locals := 0 }
theorem mX5_copy {l : Launch} {E : ps_E} {σ : ps_S} {k0 : Nat} {a1 : Int32} {k2 : Nat} {a3 : Int32} {r : ps_S} (hk0 : ps_kd k0 = 1) (hk2 : ps_kd k2 = 1) (h : fX5_copy k0 a1 k2 a3 σ = some r) : ps_MV l yX5_copy (ps_wm yX5_copy cX5_copy 5 none) rmX5_copy [.ref (e_ad E k0), .int a1, .ref (e_ad E k2), .int a3] E σ r :=
  ps_metV yX5_copy rmX5_copy 5 (own := "PartSumsModel")  (by decide +kernel) rfl (Nat.le_of_ble_eq_true rfl) rfl (fun z e1 e2 e3 e4 e5 C k => by
    subst e5
    exact tX5_copy C (ps_Zof e1 e3 e4) hk0 hk2 h k)
theorem hdX5_copy : yX5_copy.cls ≠ "java/lang/invoke/MethodHandle" ∧ yX5_copy.cls ≠ "java/lang/invoke/VarHandle" ∧ (parseMethodDescriptor yX5_copy.desc).map (fun d => d.parameters.length) = some 4 := by decide +kernel
def fX5_readThings (σ : ps_S) : Option (Int32 × ps_S) :=
  ((fX5_next σ).bind fun q1 =>
  (if (q1.1 45 6) = (3 : Int32) then ((fX5_isIn (q1.1 45 7) (1 : Int32) (8 : Int32)).bind fun q2 =>
  (if q2 = 0 then ((fX5_bad (2 : Int32) q1).bind fun q6 =>
  (ps_cb q6.1 (some (q6.1, q6.2))))
  else (ps_ck (0 : Int32) 1289 ((ps_let (ps_ui q1 48 (Int32.toNatClampNeg (0 : Int32)) (q1.1 45 7)) fun σ4 =>
  ((fX5_next σ4).bind fun q5 =>
  some ((1 : Int32), q5)))))))
  else ((fX5_bad (1 : Int32) q1).bind fun q8 =>
  (ps_cb q8.1 (some (q8.1, q8.2))))))
set_option maxHeartbeats 4000000 in
set_option maxRecDepth 100000 in
theorem tX5_readThings {z : ps_X} (C : ps_C z cX5_readThings 1 "PartSumsModel") (Z : ps_Z z 2 45) {σ : ps_S}  {r : Int32 × ps_S} (h : fX5_readThings σ = some r) (k : ps_KZ z 1 cX5_readThings r.1 r.2) : ps_at z 1 0 [(0, .ref (z_ad z 45))] [] σ := by
  unfold fX5_readThings at h
  refine ps_aload_n C (pc := 0) dX5_readThings_0 0 rfl ?_
  obtain ⟨q1, hq1, h⟩ := ps_bd h
  refine ps_callVV C Z (pc := 1) (As := []) (k0 := 45) (mX5_next  hq1) (Cn := "PartSumsModel") rfl tw_874 tw_876 tw_26 tw_70 tw_877 hdX5_next rfl rfl ⟨by decide, by decide⟩ (by decide) ps_o45 rfl rfl (Nat.le_of_ble_eq_true rfl) dX5_readThings_1 rfl ?_
  refine ps_aload_n C (pc := 4) dX5_readThings_4 0 rfl ?_
  refine pg_45_6 C (pc := 5) tw_802 dX5_readThings_5 ?_
  refine ps_iconst C (pc := 8) (v := 3) dX5_readThings_8 (by decide) ?_
  refine ps_icmp_eq C (pc := 9) 18 dX5_readThings_9 (by decide) (fun hc => ?_) (fun hc => ?_)
  · have h := ps_ift hc h
    refine ps_aload_n C (pc := 18) dX5_readThings_18 0 rfl ?_
    refine pg_45_7 C (pc := 19) tw_803 dX5_readThings_19 ?_
    refine ps_iconst C (pc := 22) (v := 1) dX5_readThings_22 (by decide) ?_
    refine ps_bipush C (pc := 23) (v := 8) dX5_readThings_23 (by decide) ?_
    obtain ⟨q2, hq2, h⟩ := ps_bd h
    refine ps_callSI C Z (pc := 25) (As := [.int (q1.1 45 7), .int (1 : Int32), .int (8 : Int32)]) (mX5_isIn  hq2) tw_904 tw_905 tw_70 tw_906 hdX5_isIn rfl rfl ⟨by decide, by decide⟩ rfl (Nat.le_of_ble_eq_true rfl) dX5_readThings_25 rfl ?_
    refine ps_if_ne C (pc := 28) 37 dX5_readThings_28 (by decide) (fun hc => ?_) (fun hc => ?_)
    · have h := ps_iff hc h
      refine ps_aload_n C (pc := 37) dX5_readThings_37 0 rfl ?_
      refine pg_45_11 C (pc := 38) tw_807 dX5_readThings_38 ?_
      refine ps_iconst C (pc := 41) (v := 0) dX5_readThings_41 (by decide) ?_
      refine ps_aload_n C (pc := 42) dX5_readThings_42 0 rfl ?_
      refine pg_45_7 C (pc := 43) tw_803 dX5_readThings_43 ?_
      obtain ⟨hi3, h⟩ := ps_ck_s h
      refine ps_iastL C (pc := 46) 48 rfl rfl hi3 dX5_readThings_46 h (fun σ4 h => ?_)
      refine ps_aload_n C (pc := 47) dX5_readThings_47 0 rfl ?_
      obtain ⟨q5, hq5, h⟩ := ps_bd h
      refine ps_callVV C Z (pc := 48) (As := []) (k0 := 45) (mX5_next  hq5) (Cn := "PartSumsModel") rfl tw_874 tw_876 tw_26 tw_70 tw_877 hdX5_next rfl rfl ⟨by decide, by decide⟩ (by decide) ps_o45 rfl rfl (Nat.le_of_ble_eq_true rfl) dX5_readThings_48 rfl ?_
      refine ps_iconst C (pc := 51) (v := 1) dX5_readThings_51 (by decide) ?_
      obtain rfl := Option.some.inj h
      exact k _ _ (Or.inr rfl) dX5_readThings_52
    · have h := ps_ift hc h
      refine ps_aload_n C (pc := 31) dX5_readThings_31 0 rfl ?_
      refine ps_iconst C (pc := 32) (v := 2) dX5_readThings_32 (by decide) ?_
      obtain ⟨q6, hq6, h⟩ := ps_bd h
      refine ps_callVI C Z (pc := 33) (As := [.int (2 : Int32)]) (k0 := 45) (mX5_bad  hq6) (Cn := "PartSumsModel") rfl tw_900 tw_902 tw_31 tw_70 tw_903 hdX5_bad rfl rfl ⟨by decide, by decide⟩ (by decide) ps_o45 rfl rfl (Nat.le_of_ble_eq_true rfl) dX5_readThings_33 rfl ?_
      obtain ⟨hb7, h⟩ := ps_cb_s h
      obtain rfl := Option.some.inj h
      exact k _ _ hb7 dX5_readThings_36
  · have h := ps_iff hc h
    refine ps_aload_n C (pc := 12) dX5_readThings_12 0 rfl ?_
    refine ps_iconst C (pc := 13) (v := 1) dX5_readThings_13 (by decide) ?_
    obtain ⟨q8, hq8, h⟩ := ps_bd h
    refine ps_callVI C Z (pc := 14) (As := [.int (1 : Int32)]) (k0 := 45) (mX5_bad  hq8) (Cn := "PartSumsModel") rfl tw_900 tw_902 tw_31 tw_70 tw_903 hdX5_bad rfl rfl ⟨by decide, by decide⟩ (by decide) ps_o45 rfl rfl (Nat.le_of_ble_eq_true rfl) dX5_readThings_14 rfl ?_
    obtain ⟨hb9, h⟩ := ps_cb_s h
    obtain rfl := Option.some.inj h
    exact k _ _ hb9 dX5_readThings_17
def rmX5_readThings : Room := { frames := 2, cells := 0, slots := 0, locals := 45 }
theorem mX5_readThings {l : Launch} {E : ps_E} {σ : ps_S}  {r : Int32 × ps_S}  (h : fX5_readThings σ = some r) : ps_MI l yX5_readThings (ps_wm yX5_readThings cX5_readThings 1 (some .boolean)) rmX5_readThings [.ref (e_ad E 45)] E σ r.1 r.2 :=
  ps_metZ yX5_readThings rmX5_readThings 1 (own := "PartSumsModel") r.1 (by decide +kernel) rfl (Nat.le_of_ble_eq_true rfl) rfl (fun z e1 e2 e3 e4 e5 C k => by
    subst e5
    exact tX5_readThings C (ps_Zof e1 e3 e4)  h k)
theorem hdX5_readThings : yX5_readThings.cls ≠ "java/lang/invoke/MethodHandle" ∧ yX5_readThings.cls ≠ "java/lang/invoke/VarHandle" ∧ (parseMethodDescriptor yX5_readThings.desc).map (fun d => d.parameters.length) = some 0 := by decide +kernel
def pX5_letters_S7 (z : ps_X)  (σ : ps_S) (s : Int32 × Int32) : Prop := ps_at z 4 7 [(0, .ref (z_ad z 45)), (1, .int s.1), (2, .int s.2)] [] σ
def qX5_letters_S7 (z : ps_X)  (σ : ps_S) (x : (Unit) ⊕ (Int32)) : Prop := match x with | .inl y => ps_at z 4 43 [] [] σ | .inr y => ps_at z 4 57 [(1, .int y)] [] σ
def fX5_letters_S7  (σ : ps_S) (a1 : Int32) (a2 : Int32) : Option ((Int32 × Int32) ⊕ ((Unit) ⊕ (Int32))) :=
  (if (σ.1 45 4) ≤ a2 then some (.inr (.inr a1))
  else (ps_ck a2 540 ((ps_let ((σ.1 46 (Int32.toNatClampNeg a2)) - (97 : Int32)) fun x3 =>
  (ps_ck (0 : Int32) 1289 ((if (σ.1 48 (Int32.toNatClampNeg (0 : Int32))) ≤ x3 then some (.inr (.inl ()))
  else ((fX5_has a1 x3).bind fun q5 =>
  (if q5 = 0 then (ps_let (a1 ||| ((1 : Int32) <<< (x3 &&& 31))) fun x6 =>
  (ps_let (a2 + (1 : Int32)) fun x7 =>
  some (.inl (x6, x7))))
  else some (.inr (.inl ())))))))))))
set_option maxHeartbeats 4000000 in
set_option maxRecDepth 100000 in
theorem tX5_letters_S7 {z : ps_X} (C : ps_C z cX5_letters 4 "PartSumsModel") (Z : ps_Z z 1 21)  (σ : ps_S)  (s : Int32 × Int32) (r : (Int32 × Int32) ⊕ ((Unit) ⊕ (Int32))) (h : fX5_letters_S7  σ s.1 s.2 = some r) (k : ps_k (pX5_letters_S7 z σ) (qX5_letters_S7 z σ) r) : pX5_letters_S7 z σ s := by
  obtain ⟨a1, a2⟩ := s
  unfold fX5_letters_S7 at h
  unfold pX5_letters_S7
  refine ps_iload_n C (pc := 7) dX5_letters_7 2 rfl ?_
  refine ps_aload_n C (pc := 8) dX5_letters_8 0 rfl ?_
  refine pg_45_4 C (pc := 9) tw_800 dX5_letters_9 ?_
  refine ps_icmp_ge C (pc := 12) 57 dX5_letters_12 (by decide) (fun hc => ?_) (fun hc => ?_)
  · have h := ps_ift hc h
    obtain rfl := Option.some.inj h
    exact ps_sub [1] rfl k
  · have h := ps_iff hc h
    refine ps_aload_n C (pc := 15) dX5_letters_15 0 rfl ?_
    refine pg_45_1 C (pc := 16) tw_797 dX5_letters_16 ?_
    refine ps_iload_n C (pc := 19) dX5_letters_19 2 rfl ?_
    obtain ⟨hi2, h⟩ := ps_ck_s h
    refine ps_iald C (pc := 20) 46 rfl rfl hi2 dX5_letters_20 ?_
    refine ps_bipush C (pc := 21) (v := 97) dX5_letters_21 (by decide) ?_
    refine ps_isub C (pc := 23) dX5_letters_23 ?_
    refine ps_istoreL_n C (pc := 24) (lw := fun x3 => [(3, .int x3), (0, .ref (z_ad z 45)), (1, .int a1), (2, .int a2)]) dX5_letters_24 (by decide) (fun _ => rfl) h (fun x3 h => ?_)
    refine ps_iload_n C (pc := 25) dX5_letters_25 0 rfl ?_
    refine ps_aload_n C (pc := 26) dX5_letters_26 1 rfl ?_
    refine pg_45_11 C (pc := 27) tw_807 dX5_letters_27 ?_
    refine ps_iconst C (pc := 30) (v := 0) dX5_letters_30 (by decide) ?_
    obtain ⟨hi4, h⟩ := ps_ck_s h
    refine ps_iald C (pc := 31) 48 rfl rfl hi4 dX5_letters_31 ?_
    refine ps_icmp_ge C (pc := 32) 43 dX5_letters_32 (by decide) (fun hc => ?_) (fun hc => ?_)
    · have h := ps_ift hc h
      obtain rfl := Option.some.inj h
      exact ps_sub [] rfl k
    · have h := ps_iff hc h
      refine ps_iload_n C (pc := 35) dX5_letters_35 2 rfl ?_
      refine ps_iload_n C (pc := 36) dX5_letters_36 0 rfl ?_
      obtain ⟨q5, hq5, h⟩ := ps_bd h
      refine ps_callSI C Z (pc := 37) (As := [.int a1, .int x3]) (mX5_has  hq5) tw_915 tw_916 tw_70 tw_917 hdX5_has rfl rfl ⟨by decide, by decide⟩ rfl (Nat.le_of_ble_eq_true rfl) dX5_letters_37 rfl ?_
      refine ps_if_eq C (pc := 40) 45 dX5_letters_40 (by decide) (fun hc => ?_) (fun hc => ?_)
      · have h := ps_ift hc h
        refine ps_iload_n C (pc := 45) dX5_letters_45 2 rfl ?_
        refine ps_iconst C (pc := 46) (v := 1) dX5_letters_46 (by decide) ?_
        refine ps_iload_n C (pc := 47) dX5_letters_47 0 rfl ?_
        refine ps_ishl C (pc := 48) dX5_letters_48 ?_
        refine ps_ior C (pc := 49) dX5_letters_49 ?_
        refine ps_istoreL_n C (pc := 50) (lw := fun x6 => [(1, .int x6), (3, .int x3), (0, .ref (z_ad z 45)), (2, .int a2)]) dX5_letters_50 (by decide) (fun _ => rfl) h (fun x6 h => ?_)
        refine ps_iincL C (pc := 51) (zz := 1) (lw := fun x7 => [(2, .int x7), (1, .int x6), (3, .int x3), (0, .ref (z_ad z 45))]) dX5_letters_51 3 rfl (by decide) (by decide) (fun _ => rfl) h (fun x7 h => ?_)
        refine ps_goto C (pc := 54) 7 dX5_letters_54 (by decide) ?_
        obtain rfl := Option.some.inj h
        exact ps_sub [3, 1, 0] rfl k
      · have h := ps_iff hc h
        obtain rfl := Option.some.inj h
        exact ps_sub [] rfl k
def fX5_letters (σ : ps_S) : Option (Int32) :=
  (ps_let (σ.1 45 5) fun x1 =>
  ((ps_lp (fun s => fX5_letters_S7 σ s.1 s.2) 100000 ((0 : Int32), x1)).bind fun e8 =>
  match e8 with | .inl y9 => some (-1 : Int32) | .inr y10 => some y10))
set_option maxHeartbeats 4000000 in
set_option maxRecDepth 100000 in
theorem tX5_letters {z : ps_X} (C : ps_C z cX5_letters 4 "PartSumsModel") (Z : ps_Z z 1 21) {σ : ps_S}  {r : Int32} (h : fX5_letters σ = some r) (k : ps_KI z 4 cX5_letters r σ) : ps_at z 4 0 [(0, .ref (z_ad z 45))] [] σ := by
  unfold fX5_letters at h
  refine ps_iconst C (pc := 0) (v := 0) dX5_letters_0 (by decide) ?_
  refine ps_istore_n C (pc := 1) (lv' := [(1, .int (0 : Int32)), (0, .ref (z_ad z 45))]) dX5_letters_1 (by decide) rfl ?_
  refine ps_aload_n C (pc := 2) dX5_letters_2 1 rfl ?_
  refine pg_45_5 C (pc := 3) tw_801 dX5_letters_3 ?_
  refine ps_istoreL_n C (pc := 6) (lw := fun x1 => [(2, .int x1), (1, .int (0 : Int32)), (0, .ref (z_ad z 45))]) dX5_letters_6 (by decide) (fun _ => rfl) h (fun x1 h => ?_)
  obtain ⟨e8, he8, h⟩ := ps_bd h
  refine ps_sub [2, 1, 0] rfl ?_
  refine ps_loop (P := pX5_letters_S7 z σ) (K := qX5_letters_S7 z σ) (fun s r h k => tX5_letters_S7 C Z σ  s r h k) _ _ _ he8 ?_
  unfold qX5_letters_S7
  rcases e8 with y9 | w_y9
  · refine ps_iconst C (pc := 43) (v := -1) dX5_letters_43 (by decide) ?_
    obtain rfl := Option.some.inj h
    exact k _ _ dX5_letters_44
  · generalize w_y9 = y10 at h ⊢
    refine ps_iload_n C (pc := 57) dX5_letters_57 0 rfl ?_
    obtain rfl := Option.some.inj h
    exact k _ _ dX5_letters_58
def rmX5_letters : Room := { frames := 1, cells := 0, slots := 0, locals := 21 }
theorem mX5_letters {l : Launch} {E : ps_E} {σ : ps_S}  {r : Int32}  (h : fX5_letters σ = some r) : ps_MI l yX5_letters (ps_wm yX5_letters cX5_letters 4 (some .int)) rmX5_letters [.ref (e_ad E 45)] E σ r σ :=
  ps_metI yX5_letters rmX5_letters 4 (own := "PartSumsModel") r (by decide +kernel) rfl (Nat.le_of_ble_eq_true rfl) rfl (fun z e1 e2 e3 e4 e5 C k => by
    subst e5
    exact tX5_letters C (ps_Zof e1 e3 e4)  h k)
theorem hdX5_letters : yX5_letters.cls ≠ "java/lang/invoke/MethodHandle" ∧ yX5_letters.cls ≠ "java/lang/invoke/VarHandle" ∧ (parseMethodDescriptor yX5_letters.desc).map (fun d => d.parameters.length) = some 0 := by decide +kernel
def fX5_readSet (σ : ps_S) : Option (Int32 × ps_S) :=
  ((fX5_next σ).bind fun q1 =>
  (if (q1.1 45 6) = (2 : Int32) then ((fX5_letters q1).bind fun q2 =>
  (if q2 = (-1 : Int32) then ((fX5_bad (3 : Int32) q1).bind fun q15 =>
  (ps_cb q15.1 (some (q15.1, q15.2))))
  else (ps_ck ((1 : Int32) + q2) 1289 ((if (q1.1 48 (Int32.toNatClampNeg ((1 : Int32) + q2))) ≤ 0 then (ps_ck ((1 : Int32) + q2) 1289 ((ps_let (ps_ui q1 48 (Int32.toNatClampNeg ((1 : Int32) + q2)) (1 : Int32)) fun σ5 =>
  ((fX5_next σ5).bind fun q6 =>
  (if (q6.1 45 6) = (3 : Int32) then ((fX5_isIn (q6.1 45 7) (1 : Int32) (999 : Int32)).bind fun q7 =>
  (if q7 = 0 then ((fX5_bad (2 : Int32) q6).bind fun q11 =>
  (ps_cb q11.1 (some (q11.1, q11.2))))
  else (ps_ck ((1 : Int32) + q2) 1289 ((ps_let (ps_ui q6 48 (Int32.toNatClampNeg ((1 : Int32) + q2)) (q6.1 45 7)) fun σ9 =>
  ((fX5_next σ9).bind fun q10 =>
  some ((1 : Int32), q10)))))))
  else some ((1 : Int32), q6))))))
  else ((fX5_bad (4 : Int32) q1).bind fun q13 =>
  (ps_cb q13.1 (some (q13.1, q13.2)))))))))
  else ((fX5_bad (1 : Int32) q1).bind fun q17 =>
  (ps_cb q17.1 (some (q17.1, q17.2))))))
set_option maxHeartbeats 4000000 in
set_option maxRecDepth 100000 in
theorem tX5_readSet {z : ps_X} (C : ps_C z cX5_readSet 2 "PartSumsModel") (Z : ps_Z z 2 45) {σ : ps_S}  {r : Int32 × ps_S} (h : fX5_readSet σ = some r) (k : ps_KZ z 2 cX5_readSet r.1 r.2) : ps_at z 2 0 [(0, .ref (z_ad z 45))] [] σ := by
  unfold fX5_readSet at h
  refine ps_aload_n C (pc := 0) dX5_readSet_0 0 rfl ?_
  obtain ⟨q1, hq1, h⟩ := ps_bd h
  refine ps_callVV C Z (pc := 1) (As := []) (k0 := 45) (mX5_next  hq1) (Cn := "PartSumsModel") rfl tw_874 tw_876 tw_26 tw_70 tw_877 hdX5_next rfl rfl ⟨by decide, by decide⟩ (by decide) ps_o45 rfl rfl (Nat.le_of_ble_eq_true rfl) dX5_readSet_1 rfl ?_
  refine ps_aload_n C (pc := 4) dX5_readSet_4 0 rfl ?_
  refine pg_45_6 C (pc := 5) tw_802 dX5_readSet_5 ?_
  refine ps_iconst C (pc := 8) (v := 2) dX5_readSet_8 (by decide) ?_
  refine ps_icmp_eq C (pc := 9) 18 dX5_readSet_9 (by decide) (fun hc => ?_) (fun hc => ?_)
  · have h := ps_ift hc h
    refine ps_aload_n C (pc := 18) dX5_readSet_18 0 rfl ?_
    obtain ⟨q2, hq2, h⟩ := ps_bd h
    refine ps_callVI C Z (pc := 19) (As := []) (k0 := 45) (mX5_letters  hq2) (Cn := "PartSumsModel") rfl tw_911 tw_913 tw_33 tw_70 tw_914 hdX5_letters rfl rfl ⟨by decide, by decide⟩ (by decide) ps_o45 rfl rfl (Nat.le_of_ble_eq_true rfl) dX5_readSet_19 rfl ?_
    refine ps_istore_n C (pc := 22) (lv' := [(1, .int q2), (0, .ref (z_ad z 45))]) dX5_readSet_22 (by decide) rfl ?_
    refine ps_iload_n C (pc := 23) dX5_readSet_23 0 rfl ?_
    refine ps_iconst C (pc := 24) (v := -1) dX5_readSet_24 (by decide) ?_
    refine ps_icmp_ne C (pc := 25) 34 dX5_readSet_25 (by decide) (fun hc => ?_) (fun hc => ?_)
    · have h := ps_iff hc h
      refine ps_aload_n C (pc := 34) dX5_readSet_34 1 rfl ?_
      refine pg_45_11 C (pc := 35) tw_807 dX5_readSet_35 ?_
      refine ps_iconst C (pc := 38) (v := 1) dX5_readSet_38 (by decide) ?_
      refine ps_iload_n C (pc := 39) dX5_readSet_39 0 rfl ?_
      refine ps_iadd C (pc := 40) dX5_readSet_40 ?_
      obtain ⟨hi3, h⟩ := ps_ck_s h
      refine ps_iald C (pc := 41) 48 rfl rfl hi3 dX5_readSet_41 ?_
      refine ps_if_le C (pc := 42) 51 dX5_readSet_42 (by decide) (fun hc => ?_) (fun hc => ?_)
      · have h := ps_ift hc h
        refine ps_aload_n C (pc := 51) dX5_readSet_51 1 rfl ?_
        refine pg_45_11 C (pc := 52) tw_807 dX5_readSet_52 ?_
        refine ps_iconst C (pc := 55) (v := 1) dX5_readSet_55 (by decide) ?_
        refine ps_iload_n C (pc := 56) dX5_readSet_56 0 rfl ?_
        refine ps_iadd C (pc := 57) dX5_readSet_57 ?_
        refine ps_iconst C (pc := 58) (v := 1) dX5_readSet_58 (by decide) ?_
        obtain ⟨hi4, h⟩ := ps_ck_s h
        refine ps_iastL C (pc := 59) 48 rfl rfl hi4 dX5_readSet_59 h (fun σ5 h => ?_)
        refine ps_aload_n C (pc := 60) dX5_readSet_60 1 rfl ?_
        obtain ⟨q6, hq6, h⟩ := ps_bd h
        refine ps_callVV C Z (pc := 61) (As := []) (k0 := 45) (mX5_next  hq6) (Cn := "PartSumsModel") rfl tw_874 tw_876 tw_26 tw_70 tw_877 hdX5_next rfl rfl ⟨by decide, by decide⟩ (by decide) ps_o45 rfl rfl (Nat.le_of_ble_eq_true rfl) dX5_readSet_61 rfl ?_
        refine ps_aload_n C (pc := 64) dX5_readSet_64 1 rfl ?_
        refine pg_45_6 C (pc := 65) tw_802 dX5_readSet_65 ?_
        refine ps_iconst C (pc := 68) (v := 3) dX5_readSet_68 (by decide) ?_
        refine ps_icmp_eq C (pc := 69) 74 dX5_readSet_69 (by decide) (fun hc => ?_) (fun hc => ?_)
        · have h := ps_ift hc h
          refine ps_aload_n C (pc := 74) dX5_readSet_74 1 rfl ?_
          refine pg_45_7 C (pc := 75) tw_803 dX5_readSet_75 ?_
          refine ps_iconst C (pc := 78) (v := 1) dX5_readSet_78 (by decide) ?_
          refine ps_sipush C (pc := 79) (v := 999) dX5_readSet_79 (by decide) ?_
          obtain ⟨q7, hq7, h⟩ := ps_bd h
          refine ps_callSI C Z (pc := 82) (As := [.int (q6.1 45 7), .int (1 : Int32), .int (999 : Int32)]) (mX5_isIn  hq7) tw_904 tw_905 tw_70 tw_906 hdX5_isIn rfl rfl ⟨by decide, by decide⟩ rfl (Nat.le_of_ble_eq_true rfl) dX5_readSet_82 rfl ?_
          refine ps_if_ne C (pc := 85) 94 dX5_readSet_85 (by decide) (fun hc => ?_) (fun hc => ?_)
          · have h := ps_iff hc h
            refine ps_aload_n C (pc := 94) dX5_readSet_94 1 rfl ?_
            refine pg_45_11 C (pc := 95) tw_807 dX5_readSet_95 ?_
            refine ps_iconst C (pc := 98) (v := 1) dX5_readSet_98 (by decide) ?_
            refine ps_iload_n C (pc := 99) dX5_readSet_99 0 rfl ?_
            refine ps_iadd C (pc := 100) dX5_readSet_100 ?_
            refine ps_aload_n C (pc := 101) dX5_readSet_101 1 rfl ?_
            refine pg_45_7 C (pc := 102) tw_803 dX5_readSet_102 ?_
            obtain ⟨hi8, h⟩ := ps_ck_s h
            refine ps_iastL C (pc := 105) 48 rfl rfl hi8 dX5_readSet_105 h (fun σ9 h => ?_)
            refine ps_aload_n C (pc := 106) dX5_readSet_106 1 rfl ?_
            obtain ⟨q10, hq10, h⟩ := ps_bd h
            refine ps_callVV C Z (pc := 107) (As := []) (k0 := 45) (mX5_next  hq10) (Cn := "PartSumsModel") rfl tw_874 tw_876 tw_26 tw_70 tw_877 hdX5_next rfl rfl ⟨by decide, by decide⟩ (by decide) ps_o45 rfl rfl (Nat.le_of_ble_eq_true rfl) dX5_readSet_107 rfl ?_
            refine ps_iconst C (pc := 110) (v := 1) dX5_readSet_110 (by decide) ?_
            obtain rfl := Option.some.inj h
            exact k _ _ (Or.inr rfl) dX5_readSet_111
          · have h := ps_ift hc h
            refine ps_aload_n C (pc := 88) dX5_readSet_88 1 rfl ?_
            refine ps_iconst C (pc := 89) (v := 2) dX5_readSet_89 (by decide) ?_
            obtain ⟨q11, hq11, h⟩ := ps_bd h
            refine ps_callVI C Z (pc := 90) (As := [.int (2 : Int32)]) (k0 := 45) (mX5_bad  hq11) (Cn := "PartSumsModel") rfl tw_900 tw_902 tw_31 tw_70 tw_903 hdX5_bad rfl rfl ⟨by decide, by decide⟩ (by decide) ps_o45 rfl rfl (Nat.le_of_ble_eq_true rfl) dX5_readSet_90 rfl ?_
            obtain ⟨hb12, h⟩ := ps_cb_s h
            obtain rfl := Option.some.inj h
            exact k _ _ hb12 dX5_readSet_93
        · have h := ps_iff hc h
          refine ps_iconst C (pc := 72) (v := 1) dX5_readSet_72 (by decide) ?_
          obtain rfl := Option.some.inj h
          exact k _ _ (Or.inr rfl) dX5_readSet_73
      · have h := ps_iff hc h
        refine ps_aload_n C (pc := 45) dX5_readSet_45 1 rfl ?_
        refine ps_iconst C (pc := 46) (v := 4) dX5_readSet_46 (by decide) ?_
        obtain ⟨q13, hq13, h⟩ := ps_bd h
        refine ps_callVI C Z (pc := 47) (As := [.int (4 : Int32)]) (k0 := 45) (mX5_bad  hq13) (Cn := "PartSumsModel") rfl tw_900 tw_902 tw_31 tw_70 tw_903 hdX5_bad rfl rfl ⟨by decide, by decide⟩ (by decide) ps_o45 rfl rfl (Nat.le_of_ble_eq_true rfl) dX5_readSet_47 rfl ?_
        obtain ⟨hb14, h⟩ := ps_cb_s h
        obtain rfl := Option.some.inj h
        exact k _ _ hb14 dX5_readSet_50
    · have h := ps_ift hc h
      refine ps_aload_n C (pc := 28) dX5_readSet_28 1 rfl ?_
      refine ps_iconst C (pc := 29) (v := 3) dX5_readSet_29 (by decide) ?_
      obtain ⟨q15, hq15, h⟩ := ps_bd h
      refine ps_callVI C Z (pc := 30) (As := [.int (3 : Int32)]) (k0 := 45) (mX5_bad  hq15) (Cn := "PartSumsModel") rfl tw_900 tw_902 tw_31 tw_70 tw_903 hdX5_bad rfl rfl ⟨by decide, by decide⟩ (by decide) ps_o45 rfl rfl (Nat.le_of_ble_eq_true rfl) dX5_readSet_30 rfl ?_
      obtain ⟨hb16, h⟩ := ps_cb_s h
      obtain rfl := Option.some.inj h
      exact k _ _ hb16 dX5_readSet_33
  · have h := ps_iff hc h
    refine ps_aload_n C (pc := 12) dX5_readSet_12 0 rfl ?_
    refine ps_iconst C (pc := 13) (v := 1) dX5_readSet_13 (by decide) ?_
    obtain ⟨q17, hq17, h⟩ := ps_bd h
    refine ps_callVI C Z (pc := 14) (As := [.int (1 : Int32)]) (k0 := 45) (mX5_bad  hq17) (Cn := "PartSumsModel") rfl tw_900 tw_902 tw_31 tw_70 tw_903 hdX5_bad rfl rfl ⟨by decide, by decide⟩ (by decide) ps_o45 rfl rfl (Nat.le_of_ble_eq_true rfl) dX5_readSet_14 rfl ?_
    obtain ⟨hb18, h⟩ := ps_cb_s h
    obtain rfl := Option.some.inj h
    exact k _ _ hb18 dX5_readSet_17
def rmX5_readSet : Room := { frames := 2, cells := 0, slots := 0, locals := 45 }
theorem mX5_readSet {l : Launch} {E : ps_E} {σ : ps_S}  {r : Int32 × ps_S}  (h : fX5_readSet σ = some r) : ps_MI l yX5_readSet (ps_wm yX5_readSet cX5_readSet 2 (some .boolean)) rmX5_readSet [.ref (e_ad E 45)] E σ r.1 r.2 :=
  ps_metZ yX5_readSet rmX5_readSet 2 (own := "PartSumsModel") r.1 (by decide +kernel) rfl (Nat.le_of_ble_eq_true rfl) rfl (fun z e1 e2 e3 e4 e5 C k => by
    subst e5
    exact tX5_readSet C (ps_Zof e1 e3 e4)  h k)
theorem hdX5_readSet : yX5_readSet.cls ≠ "java/lang/invoke/MethodHandle" ∧ yX5_readSet.cls ≠ "java/lang/invoke/VarHandle" ∧ (parseMethodDescriptor yX5_readSet.desc).map (fun d => d.parameters.length) = some 0 := by decide +kernel
def pX5_low_S2 (z : ps_X) (a0 : Int32) (σ : ps_S) (s : Int32) : Prop := ps_at z 2 2 [(0, .int a0), (1, .int s)] [] σ
def qX5_low_S2 (z : ps_X) (a0 : Int32) (σ : ps_S) (x : (Int32)) : Prop := match x with | y => ps_at z 2 16 [(1, .int y)] [] σ
def fX5_low_S2 (a0 : Int32) (a1 : Int32) : Option ((Int32) ⊕ ((Int32))) :=
  ((fX5_has a0 a1).bind fun q1 =>
  (if q1 = 0 then (ps_let (a1 + (1 : Int32)) fun x2 =>
  some (.inl x2))
  else some (.inr a1)))
set_option maxHeartbeats 4000000 in
set_option maxRecDepth 100000 in
theorem tX5_low_S2 {z : ps_X} (C : ps_C z cX5_low 2 "PartSumsModel") (Z : ps_Z z 1 21) (a0 : Int32)  (σ : ps_S) (s : Int32) (r : (Int32) ⊕ ((Int32))) (h : fX5_low_S2 a0 s = some r) (k : ps_k (pX5_low_S2 z a0 σ) (qX5_low_S2 z a0 σ) r) : pX5_low_S2 z a0 σ s := by
  generalize s = a1 at h ⊢
  unfold fX5_low_S2 at h
  unfold pX5_low_S2
  refine ps_iload_n C (pc := 2) dX5_low_2 0 rfl ?_
  refine ps_iload_n C (pc := 3) dX5_low_3 1 rfl ?_
  obtain ⟨q1, hq1, h⟩ := ps_bd h
  refine ps_callSI C Z (pc := 4) (As := [.int a0, .int a1]) (mX5_has  hq1) tw_915 tw_916 tw_70 tw_917 hdX5_has rfl rfl ⟨by decide, by decide⟩ rfl (Nat.le_of_ble_eq_true rfl) dX5_low_4 rfl ?_
  refine ps_if_ne C (pc := 7) 16 dX5_low_7 (by decide) (fun hc => ?_) (fun hc => ?_)
  · have h := ps_iff hc h
    obtain rfl := Option.some.inj h
    exact ps_sub [1] rfl k
  · have h := ps_ift hc h
    refine ps_iincL C (pc := 10) (zz := 1) (lw := fun x2 => [(1, .int x2), (0, .int a0)]) dX5_low_10 1 rfl (by decide) (by decide) (fun _ => rfl) h (fun x2 h => ?_)
    refine ps_goto C (pc := 13) 2 dX5_low_13 (by decide) ?_
    obtain rfl := Option.some.inj h
    exact ps_sub [1, 0] rfl k
def fX5_low (a0 : Int32) : Option (Int32) :=
  ((ps_lp (fun s => fX5_low_S2 a0 s) 100000 (0 : Int32)).bind fun e3 =>
  some e3)
set_option maxHeartbeats 4000000 in
set_option maxRecDepth 100000 in
theorem tX5_low {z : ps_X} (C : ps_C z cX5_low 2 "PartSumsModel") (Z : ps_Z z 1 21) {a0 : Int32}  {σ : ps_S} {r : Int32} (h : fX5_low a0 = some r) (k : ps_KI z 2 cX5_low r σ) : ps_at z 2 0 [(0, .int a0)] [] σ := by
  unfold fX5_low at h
  refine ps_iconst C (pc := 0) (v := 0) dX5_low_0 (by decide) ?_
  refine ps_istore_n C (pc := 1) (lv' := [(1, .int (0 : Int32)), (0, .int a0)]) dX5_low_1 (by decide) rfl ?_
  obtain ⟨e3, he3, h⟩ := ps_bd h
  refine ps_sub [1, 0] rfl ?_
  refine ps_loop (P := pX5_low_S2 z a0 σ) (K := qX5_low_S2 z a0 σ) (fun s r h k => tX5_low_S2 C Z a0  σ s r h k) _ _ _ he3 ?_
  unfold qX5_low_S2
  refine ps_iload_n C (pc := 16) dX5_low_16 0 rfl ?_
  obtain rfl := Option.some.inj h
  exact k _ _ dX5_low_17
def rmX5_low : Room := { frames := 1, cells := 0, slots := 0, locals := 21 }
theorem mX5_low {l : Launch} {E : ps_E} {σ : ps_S} {a0 : Int32} {r : Int32}  (h : fX5_low a0 = some r) : ps_MI l yX5_low (ps_wm yX5_low cX5_low 2 (some .int)) rmX5_low [.int a0] E σ r σ :=
  ps_metI yX5_low rmX5_low 2 (own := "PartSumsModel") r (by decide +kernel) rfl (Nat.le_of_ble_eq_true rfl) rfl (fun z e1 e2 e3 e4 e5 C k => by
    subst e5
    exact tX5_low C (ps_Zof e1 e3 e4)  h k)
theorem hdX5_low : yX5_low.cls ≠ "java/lang/invoke/MethodHandle" ∧ yX5_low.cls ≠ "java/lang/invoke/VarHandle" ∧ (parseMethodDescriptor yX5_low.desc).map (fun d => d.parameters.length) = some 1 := by decide +kernel
def fX5_joins (k0 : Nat) (a1 : Int32) (a2 : Int32) (σ : ps_S) : Option (ps_S) :=
  (ps_ck ((257 : Int32) + a1) (ps_ln k0) ((ps_ck ((257 : Int32) + a1) (ps_ln k0) ((ps_let (ps_ui σ k0 (Int32.toNatClampNeg ((257 : Int32) + a1)) ((σ.1 k0 (Int32.toNatClampNeg ((257 : Int32) + a1))) ^^^ ((1 : Int32) <<< (a2 &&& 31)))) fun σ3 =>
  (ps_ck ((257 : Int32) + a2) (ps_ln k0) ((ps_ck ((257 : Int32) + a2) (ps_ln k0) ((ps_let (ps_ui σ3 k0 (Int32.toNatClampNeg ((257 : Int32) + a2)) ((σ3.1 k0 (Int32.toNatClampNeg ((257 : Int32) + a2))) ^^^ ((1 : Int32) <<< (a1 &&& 31)))) fun σ6 =>
  some σ6))))))))))
set_option maxHeartbeats 4000000 in
set_option maxRecDepth 100000 in
theorem tX5_joins {z : ps_X} (C : ps_C z cX5_joins 3 "PartSumsModel") (Z : ps_Z z 0 0) {k0 : Nat} {a1 : Int32} {a2 : Int32} {σ : ps_S} (hk0 : ps_kd k0 = 1) {r : ps_S} (h : fX5_joins k0 a1 a2 σ = some r) (k : ps_KV z 3 cX5_joins r) : ps_at z 3 0 [(0, .ref (z_ad z k0)), (1, .int a1), (2, .int a2)] [] σ := by
  unfold fX5_joins at h
  refine ps_aload_n C (pc := 0) dX5_joins_0 0 rfl ?_
  refine ps_sipush C (pc := 1) (v := 257) dX5_joins_1 (by decide) ?_
  refine ps_iload_n C (pc := 4) dX5_joins_4 1 rfl ?_
  refine ps_iadd C (pc := 5) dX5_joins_5 ?_
  refine ps_dup2_11 C (pc := 6) dX5_joins_6 rfl rfl ?_
  obtain ⟨hi1, h⟩ := ps_ck_s h
  refine ps_iald C (pc := 7) k0 hk0 rfl hi1 dX5_joins_7 ?_
  refine ps_iconst C (pc := 8) (v := 1) dX5_joins_8 (by decide) ?_
  refine ps_iload_n C (pc := 9) dX5_joins_9 2 rfl ?_
  refine ps_ishl C (pc := 10) dX5_joins_10 ?_
  refine ps_ixor C (pc := 11) dX5_joins_11 ?_
  obtain ⟨hi2, h⟩ := ps_ck_s h
  refine ps_iastL C (pc := 12) k0 hk0 rfl hi2 dX5_joins_12 h (fun σ3 h => ?_)
  refine ps_aload_n C (pc := 13) dX5_joins_13 0 rfl ?_
  refine ps_sipush C (pc := 14) (v := 257) dX5_joins_14 (by decide) ?_
  refine ps_iload_n C (pc := 17) dX5_joins_17 2 rfl ?_
  refine ps_iadd C (pc := 18) dX5_joins_18 ?_
  refine ps_dup2_11 C (pc := 19) dX5_joins_19 rfl rfl ?_
  obtain ⟨hi4, h⟩ := ps_ck_s h
  refine ps_iald C (pc := 20) k0 hk0 rfl hi4 dX5_joins_20 ?_
  refine ps_iconst C (pc := 21) (v := 1) dX5_joins_21 (by decide) ?_
  refine ps_iload_n C (pc := 22) dX5_joins_22 1 rfl ?_
  refine ps_ishl C (pc := 23) dX5_joins_23 ?_
  refine ps_ixor C (pc := 24) dX5_joins_24 ?_
  obtain ⟨hi5, h⟩ := ps_ck_s h
  refine ps_iastL C (pc := 25) k0 hk0 rfl hi5 dX5_joins_25 h (fun σ6 h => ?_)
  obtain rfl := Option.some.inj h
  exact k _ _ dX5_joins_26
def rmX5_joins : Room := { frames := 0, cells := 0, slots := 0, locals := 0 }
theorem mX5_joins {l : Launch} {E : ps_E} {σ : ps_S} {k0 : Nat} {a1 : Int32} {a2 : Int32} {r : ps_S} (hk0 : ps_kd k0 = 1) (h : fX5_joins k0 a1 a2 σ = some r) : ps_MV l yX5_joins (ps_wm yX5_joins cX5_joins 3 none) rmX5_joins [.ref (e_ad E k0), .int a1, .int a2] E σ r :=
  ps_metV yX5_joins rmX5_joins 3 (own := "PartSumsModel")  (by decide +kernel) rfl (Nat.le_of_ble_eq_true rfl) rfl (fun z e1 e2 e3 e4 e5 C k => by
    subst e5
    exact tX5_joins C (ps_Zof e1 e3 e4) hk0 h k)
theorem hdX5_joins : yX5_joins.cls ≠ "java/lang/invoke/MethodHandle" ∧ yX5_joins.cls ≠ "java/lang/invoke/VarHandle" ∧ (parseMethodDescriptor yX5_joins.desc).map (fun d => d.parameters.length) = some 3 := by decide +kernel
def fX5_readPair_J36 (σ : ps_S) : Option (Int32 × ps_S) :=
  ((fX5_bad (3 : Int32) σ).bind fun q3 =>
  (ps_cb q3.1 (some (q3.1, q3.2))))
set_option maxHeartbeats 4000000 in
set_option maxRecDepth 100000 in
theorem tX5_readPair_J36 {z : ps_X} (C : ps_C z cX5_readPair 4 "PartSumsModel") (Z : ps_Z z 2 45) {σ : ps_S}  {r : Int32 × ps_S} (h : fX5_readPair_J36 σ = some r) (k : ps_KZ z 4 cX5_readPair r.1 r.2) : ps_at z 4 36 [(0, .ref (z_ad z 45))] [] σ := by
  unfold fX5_readPair_J36 at h
  refine ps_aload_n C (pc := 36) dX5_readPair_36 0 rfl ?_
  refine ps_iconst C (pc := 37) (v := 3) dX5_readPair_37 (by decide) ?_
  obtain ⟨q3, hq3, h⟩ := ps_bd h
  refine ps_callVI C Z (pc := 38) (As := [.int (3 : Int32)]) (k0 := 45) (mX5_bad  hq3) (Cn := "PartSumsModel") rfl tw_900 tw_902 tw_31 tw_70 tw_903 hdX5_bad rfl rfl ⟨by decide, by decide⟩ (by decide) ps_o45 rfl rfl (Nat.le_of_ble_eq_true rfl) dX5_readPair_38 rfl ?_
  obtain ⟨hb4, h⟩ := ps_cb_s h
  obtain rfl := Option.some.inj h
  exact k _ _ hb4 dX5_readPair_41
def fX5_readPair (σ : ps_S) : Option (Int32 × ps_S) :=
  ((fX5_next σ).bind fun q1 =>
  (if (q1.1 45 6) = (2 : Int32) then ((fX5_letters q1).bind fun q2 =>
  (if q2 = (-1 : Int32) then fX5_readPair_J36 q1
  else ((fX5_bits q2).bind fun q5 =>
  (if q5 = (2 : Int32) then ((fX5_low q2).bind fun q6 =>
  ((fX5_low (q2 &&& (((1 : Int32) <<< (q6 &&& 31)) ^^^ (-1 : Int32)))).bind fun q7 =>
  (ps_ck ((257 : Int32) + q6) 1289 (((fX5_has (q1.1 48 (Int32.toNatClampNeg ((257 : Int32) + q6))) q7).bind fun q9 =>
  (if q9 = 0 then ((fX5_joins 48 q6 q7 q1).bind fun q10 =>
  ((fX5_next q10).bind fun q11 =>
  some ((1 : Int32), q11)))
  else ((fX5_bad (4 : Int32) q1).bind fun q12 =>
  (ps_cb q12.1 (some (q12.1, q12.2))))))))))
  else fX5_readPair_J36 q1))))
  else ((fX5_bad (1 : Int32) q1).bind fun q14 =>
  (ps_cb q14.1 (some (q14.1, q14.2))))))
set_option maxHeartbeats 4000000 in
set_option maxRecDepth 100000 in
theorem tX5_readPair {z : ps_X} (C : ps_C z cX5_readPair 4 "PartSumsModel") (Z : ps_Z z 2 45) {σ : ps_S}  {r : Int32 × ps_S} (h : fX5_readPair σ = some r) (k : ps_KZ z 4 cX5_readPair r.1 r.2) : ps_at z 4 0 [(0, .ref (z_ad z 45))] [] σ := by
  unfold fX5_readPair at h
  refine ps_aload_n C (pc := 0) dX5_readPair_0 0 rfl ?_
  obtain ⟨q1, hq1, h⟩ := ps_bd h
  refine ps_callVV C Z (pc := 1) (As := []) (k0 := 45) (mX5_next  hq1) (Cn := "PartSumsModel") rfl tw_874 tw_876 tw_26 tw_70 tw_877 hdX5_next rfl rfl ⟨by decide, by decide⟩ (by decide) ps_o45 rfl rfl (Nat.le_of_ble_eq_true rfl) dX5_readPair_1 rfl ?_
  refine ps_aload_n C (pc := 4) dX5_readPair_4 0 rfl ?_
  refine pg_45_6 C (pc := 5) tw_802 dX5_readPair_5 ?_
  refine ps_iconst C (pc := 8) (v := 2) dX5_readPair_8 (by decide) ?_
  refine ps_icmp_eq C (pc := 9) 18 dX5_readPair_9 (by decide) (fun hc => ?_) (fun hc => ?_)
  · have h := ps_ift hc h
    refine ps_aload_n C (pc := 18) dX5_readPair_18 0 rfl ?_
    obtain ⟨q2, hq2, h⟩ := ps_bd h
    refine ps_callVI C Z (pc := 19) (As := []) (k0 := 45) (mX5_letters  hq2) (Cn := "PartSumsModel") rfl tw_911 tw_913 tw_33 tw_70 tw_914 hdX5_letters rfl rfl ⟨by decide, by decide⟩ (by decide) ps_o45 rfl rfl (Nat.le_of_ble_eq_true rfl) dX5_readPair_19 rfl ?_
    refine ps_istore_n C (pc := 22) (lv' := [(1, .int q2), (0, .ref (z_ad z 45))]) dX5_readPair_22 (by decide) rfl ?_
    refine ps_iload_n C (pc := 23) dX5_readPair_23 0 rfl ?_
    refine ps_iconst C (pc := 24) (v := -1) dX5_readPair_24 (by decide) ?_
    refine ps_icmp_eq C (pc := 25) 36 dX5_readPair_25 (by decide) (fun hc => ?_) (fun hc => ?_)
    · have h := ps_ift hc h
      exact ps_sub [1] rfl (tX5_readPair_J36 C Z  h k)
    · have h := ps_iff hc h
      refine ps_iload_n C (pc := 28) dX5_readPair_28 0 rfl ?_
      obtain ⟨q5, hq5, h⟩ := ps_bd h
      refine ps_callSI C Z (pc := 29) (As := [.int q2]) (mX5_bits  hq5) tw_922 tw_923 tw_70 tw_924 hdX5_bits rfl rfl ⟨by decide, by decide⟩ rfl (Nat.le_of_ble_eq_true rfl) dX5_readPair_29 rfl ?_
      refine ps_iconst C (pc := 32) (v := 2) dX5_readPair_32 (by decide) ?_
      refine ps_icmp_eq C (pc := 33) 42 dX5_readPair_33 (by decide) (fun hc => ?_) (fun hc => ?_)
      · have h := ps_ift hc h
        refine ps_iload_n C (pc := 42) dX5_readPair_42 0 rfl ?_
        obtain ⟨q6, hq6, h⟩ := ps_bd h
        refine ps_callSI C Z (pc := 43) (As := [.int q2]) (mX5_low  hq6) tw_925 tw_926 tw_70 tw_927 hdX5_low rfl rfl ⟨by decide, by decide⟩ rfl (Nat.le_of_ble_eq_true rfl) dX5_readPair_43 rfl ?_
        refine ps_istore_n C (pc := 46) (lv' := [(2, .int q6), (1, .int q2), (0, .ref (z_ad z 45))]) dX5_readPair_46 (by decide) rfl ?_
        refine ps_iload_n C (pc := 47) dX5_readPair_47 1 rfl ?_
        refine ps_iconst C (pc := 48) (v := 1) dX5_readPair_48 (by decide) ?_
        refine ps_iload_n C (pc := 49) dX5_readPair_49 0 rfl ?_
        refine ps_ishl C (pc := 50) dX5_readPair_50 ?_
        refine ps_iconst C (pc := 51) (v := -1) dX5_readPair_51 (by decide) ?_
        refine ps_ixor C (pc := 52) dX5_readPair_52 ?_
        refine ps_iand C (pc := 53) dX5_readPair_53 ?_
        obtain ⟨q7, hq7, h⟩ := ps_bd h
        refine ps_callSI C Z (pc := 54) (As := [.int (q2 &&& (((1 : Int32) <<< (q6 &&& 31)) ^^^ (-1 : Int32)))]) (mX5_low  hq7) tw_925 tw_926 tw_70 tw_927 hdX5_low rfl rfl ⟨by decide, by decide⟩ rfl (Nat.le_of_ble_eq_true rfl) dX5_readPair_54 rfl ?_
        refine ps_istore_n C (pc := 57) (lv' := [(3, .int q7), (2, .int q6), (1, .int q2), (0, .ref (z_ad z 45))]) dX5_readPair_57 (by decide) rfl ?_
        refine ps_aload_n C (pc := 58) dX5_readPair_58 3 rfl ?_
        refine pg_45_11 C (pc := 59) tw_807 dX5_readPair_59 ?_
        refine ps_sipush C (pc := 62) (v := 257) dX5_readPair_62 (by decide) ?_
        refine ps_iload_n C (pc := 65) dX5_readPair_65 1 rfl ?_
        refine ps_iadd C (pc := 66) dX5_readPair_66 ?_
        obtain ⟨hi8, h⟩ := ps_ck_s h
        refine ps_iald C (pc := 67) 48 rfl rfl hi8 dX5_readPair_67 ?_
        refine ps_iload_n C (pc := 68) dX5_readPair_68 0 rfl ?_
        obtain ⟨q9, hq9, h⟩ := ps_bd h
        refine ps_callSI C Z (pc := 69) (As := [.int (q1.1 48 (Int32.toNatClampNeg ((257 : Int32) + q6))), .int q7]) (mX5_has  hq9) tw_915 tw_916 tw_70 tw_917 hdX5_has rfl rfl ⟨by decide, by decide⟩ rfl (Nat.le_of_ble_eq_true rfl) dX5_readPair_69 rfl ?_
        refine ps_if_eq C (pc := 72) 81 dX5_readPair_72 (by decide) (fun hc => ?_) (fun hc => ?_)
        · have h := ps_ift hc h
          refine ps_aload_n C (pc := 81) dX5_readPair_81 3 rfl ?_
          refine pg_45_11 C (pc := 82) tw_807 dX5_readPair_82 ?_
          refine ps_iload_n C (pc := 85) dX5_readPair_85 1 rfl ?_
          refine ps_iload_n C (pc := 86) dX5_readPair_86 0 rfl ?_
          obtain ⟨q10, hq10, h⟩ := ps_bd h
          refine ps_callSV C Z (pc := 87) (As := [.ref (z_ad z 48), .int q6, .int q7]) (mX5_joins (by rfl) hq10) tw_928 tw_929 tw_70 tw_930 hdX5_joins rfl rfl ⟨by decide, by decide⟩ rfl (Nat.le_of_ble_eq_true rfl) dX5_readPair_87 rfl ?_
          refine ps_aload_n C (pc := 90) dX5_readPair_90 3 rfl ?_
          obtain ⟨q11, hq11, h⟩ := ps_bd h
          refine ps_callVV C Z (pc := 91) (As := []) (k0 := 45) (mX5_next  hq11) (Cn := "PartSumsModel") rfl tw_874 tw_876 tw_26 tw_70 tw_877 hdX5_next rfl rfl ⟨by decide, by decide⟩ (by decide) ps_o45 rfl rfl (Nat.le_of_ble_eq_true rfl) dX5_readPair_91 rfl ?_
          refine ps_iconst C (pc := 94) (v := 1) dX5_readPair_94 (by decide) ?_
          obtain rfl := Option.some.inj h
          exact k _ _ (Or.inr rfl) dX5_readPair_95
        · have h := ps_iff hc h
          refine ps_aload_n C (pc := 75) dX5_readPair_75 3 rfl ?_
          refine ps_iconst C (pc := 76) (v := 4) dX5_readPair_76 (by decide) ?_
          obtain ⟨q12, hq12, h⟩ := ps_bd h
          refine ps_callVI C Z (pc := 77) (As := [.int (4 : Int32)]) (k0 := 45) (mX5_bad  hq12) (Cn := "PartSumsModel") rfl tw_900 tw_902 tw_31 tw_70 tw_903 hdX5_bad rfl rfl ⟨by decide, by decide⟩ (by decide) ps_o45 rfl rfl (Nat.le_of_ble_eq_true rfl) dX5_readPair_77 rfl ?_
          obtain ⟨hb13, h⟩ := ps_cb_s h
          obtain rfl := Option.some.inj h
          exact k _ _ hb13 dX5_readPair_80
      · have h := ps_iff hc h
        exact ps_sub [1] rfl (tX5_readPair_J36 C Z  h k)
  · have h := ps_iff hc h
    refine ps_aload_n C (pc := 12) dX5_readPair_12 0 rfl ?_
    refine ps_iconst C (pc := 13) (v := 1) dX5_readPair_13 (by decide) ?_
    obtain ⟨q14, hq14, h⟩ := ps_bd h
    refine ps_callVI C Z (pc := 14) (As := [.int (1 : Int32)]) (k0 := 45) (mX5_bad  hq14) (Cn := "PartSumsModel") rfl tw_900 tw_902 tw_31 tw_70 tw_903 hdX5_bad rfl rfl ⟨by decide, by decide⟩ (by decide) ps_o45 rfl rfl (Nat.le_of_ble_eq_true rfl) dX5_readPair_14 rfl ?_
    obtain ⟨hb15, h⟩ := ps_cb_s h
    obtain rfl := Option.some.inj h
    exact k _ _ hb15 dX5_readPair_17
def rmX5_readPair : Room := { frames := 2, cells := 0, slots := 0, locals := 45 }
theorem mX5_readPair {l : Launch} {E : ps_E} {σ : ps_S}  {r : Int32 × ps_S}  (h : fX5_readPair σ = some r) : ps_MI l yX5_readPair (ps_wm yX5_readPair cX5_readPair 4 (some .boolean)) rmX5_readPair [.ref (e_ad E 45)] E σ r.1 r.2 :=
  ps_metZ yX5_readPair rmX5_readPair 4 (own := "PartSumsModel") r.1 (by decide +kernel) rfl (Nat.le_of_ble_eq_true rfl) rfl (fun z e1 e2 e3 e4 e5 C k => by
    subst e5
    exact tX5_readPair C (ps_Zof e1 e3 e4)  h k)
theorem hdX5_readPair : yX5_readPair.cls ≠ "java/lang/invoke/MethodHandle" ∧ yX5_readPair.cls ≠ "java/lang/invoke/VarHandle" ∧ (parseMethodDescriptor yX5_readPair.desc).map (fun d => d.parameters.length) = some 0 := by decide +kernel
def fX5_readLine (σ : ps_S) : Option (Int32 × ps_S) :=
  (ps_ck (0 : Int32) 1289 ((if (σ.1 48 (Int32.toNatClampNeg (0 : Int32))) = 0 then ((fX5_isWord (116 : Int32) (104 : Int32) (105 : Int32) (110 : Int32) (103 : Int32) (115 : Int32) σ).bind fun q10 =>
  (if q10 = 0 then ((fX5_bad (1 : Int32) σ).bind fun q11 =>
  (ps_cb q11.1 (some (q11.1, q11.2))))
  else ((fX5_readThings σ).bind fun q13 =>
  (ps_cb q13.1 (some (q13.1, q13.2))))))
  else ((fX5_isWord (115 : Int32) (101 : Int32) (116 : Int32) (0 : Int32) (0 : Int32) (0 : Int32) σ).bind fun q2 =>
  (if q2 = 0 then ((fX5_isWord (112 : Int32) (97 : Int32) (105 : Int32) (114 : Int32) (0 : Int32) (0 : Int32) σ).bind fun q3 =>
  (if q3 = 0 then ((fX5_bad (1 : Int32) σ).bind fun q4 =>
  (ps_cb q4.1 (some (q4.1, q4.2))))
  else ((fX5_readPair σ).bind fun q6 =>
  (ps_cb q6.1 (some (q6.1, q6.2))))))
  else ((fX5_readSet σ).bind fun q8 =>
  (ps_cb q8.1 (some (q8.1, q8.2)))))))))
set_option maxHeartbeats 4000000 in
set_option maxRecDepth 100000 in
theorem tX5_readLine {z : ps_X} (C : ps_C z cX5_readLine 1 "PartSumsModel") (Z : ps_Z z 3 68) {σ : ps_S}  {r : Int32 × ps_S} (h : fX5_readLine σ = some r) (k : ps_KZ z 1 cX5_readLine r.1 r.2) : ps_at z 1 0 [(0, .ref (z_ad z 45))] [] σ := by
  unfold fX5_readLine at h
  refine ps_aload_n C (pc := 0) dX5_readLine_0 0 rfl ?_
  refine pg_45_11 C (pc := 1) tw_807 dX5_readLine_1 ?_
  refine ps_iconst C (pc := 4) (v := 0) dX5_readLine_4 (by decide) ?_
  obtain ⟨hi1, h⟩ := ps_ck_s h
  refine ps_iald C (pc := 5) 48 rfl rfl hi1 dX5_readLine_5 ?_
  refine ps_if_ne C (pc := 6) 41 dX5_readLine_6 (by decide) (fun hc => ?_) (fun hc => ?_)
  · have h := ps_iff hc h
    refine ps_aload_n C (pc := 41) dX5_readLine_41 0 rfl ?_
    refine ps_bipush C (pc := 42) (v := 115) dX5_readLine_42 (by decide) ?_
    refine ps_bipush C (pc := 44) (v := 101) dX5_readLine_44 (by decide) ?_
    refine ps_bipush C (pc := 46) (v := 116) dX5_readLine_46 (by decide) ?_
    refine ps_iconst C (pc := 48) (v := 0) dX5_readLine_48 (by decide) ?_
    refine ps_iconst C (pc := 49) (v := 0) dX5_readLine_49 (by decide) ?_
    refine ps_iconst C (pc := 50) (v := 0) dX5_readLine_50 (by decide) ?_
    obtain ⟨q2, hq2, h⟩ := ps_bd h
    refine ps_callVI C Z (pc := 51) (As := [.int (115 : Int32), .int (101 : Int32), .int (116 : Int32), .int (0 : Int32), .int (0 : Int32), .int (0 : Int32)]) (k0 := 45) (mX5_isWord  hq2) (Cn := "PartSumsModel") rfl tw_892 tw_894 tw_29 tw_70 tw_895 hdX5_isWord rfl rfl ⟨by decide, by decide⟩ (by decide) ps_o45 rfl rfl (Nat.le_of_ble_eq_true rfl) dX5_readLine_51 rfl ?_
    refine ps_if_eq C (pc := 54) 62 dX5_readLine_54 (by decide) (fun hc => ?_) (fun hc => ?_)
    · have h := ps_ift hc h
      refine ps_aload_n C (pc := 62) dX5_readLine_62 0 rfl ?_
      refine ps_bipush C (pc := 63) (v := 112) dX5_readLine_63 (by decide) ?_
      refine ps_bipush C (pc := 65) (v := 97) dX5_readLine_65 (by decide) ?_
      refine ps_bipush C (pc := 67) (v := 105) dX5_readLine_67 (by decide) ?_
      refine ps_bipush C (pc := 69) (v := 114) dX5_readLine_69 (by decide) ?_
      refine ps_iconst C (pc := 71) (v := 0) dX5_readLine_71 (by decide) ?_
      refine ps_iconst C (pc := 72) (v := 0) dX5_readLine_72 (by decide) ?_
      obtain ⟨q3, hq3, h⟩ := ps_bd h
      refine ps_callVI C Z (pc := 73) (As := [.int (112 : Int32), .int (97 : Int32), .int (105 : Int32), .int (114 : Int32), .int (0 : Int32), .int (0 : Int32)]) (k0 := 45) (mX5_isWord  hq3) (Cn := "PartSumsModel") rfl tw_892 tw_894 tw_29 tw_70 tw_895 hdX5_isWord rfl rfl ⟨by decide, by decide⟩ (by decide) ps_o45 rfl rfl (Nat.le_of_ble_eq_true rfl) dX5_readLine_73 rfl ?_
      refine ps_if_eq C (pc := 76) 86 dX5_readLine_76 (by decide) (fun hc => ?_) (fun hc => ?_)
      · have h := ps_ift hc h
        refine ps_aload_n C (pc := 86) dX5_readLine_86 0 rfl ?_
        refine ps_iconst C (pc := 87) (v := 1) dX5_readLine_87 (by decide) ?_
        obtain ⟨q4, hq4, h⟩ := ps_bd h
        refine ps_callVI C Z (pc := 88) (As := [.int (1 : Int32)]) (k0 := 45) (mX5_bad  hq4) (Cn := "PartSumsModel") rfl tw_900 tw_902 tw_31 tw_70 tw_903 hdX5_bad rfl rfl ⟨by decide, by decide⟩ (by decide) ps_o45 rfl rfl (Nat.le_of_ble_eq_true rfl) dX5_readLine_88 rfl ?_
        obtain ⟨hb5, h⟩ := ps_cb_s h
        obtain rfl := Option.some.inj h
        exact k _ _ hb5 dX5_readLine_91
      · have h := ps_iff hc h
        refine ps_aload_n C (pc := 79) dX5_readLine_79 0 rfl ?_
        obtain ⟨q6, hq6, h⟩ := ps_bd h
        refine ps_callVI C Z (pc := 80) (As := []) (k0 := 45) (mX5_readPair  hq6) (Cn := "PartSumsModel") rfl tw_918 tw_920 tw_34 tw_70 tw_921 hdX5_readPair rfl rfl ⟨by decide, by decide⟩ (by decide) ps_o45 rfl rfl (Nat.le_of_ble_eq_true rfl) dX5_readLine_80 rfl ?_
        refine ps_goto C (pc := 83) 91 dX5_readLine_83 (by decide) ?_
        obtain ⟨hb7, h⟩ := ps_cb_s h
        obtain rfl := Option.some.inj h
        exact k _ _ hb7 dX5_readLine_91
    · have h := ps_iff hc h
      refine ps_aload_n C (pc := 57) dX5_readLine_57 0 rfl ?_
      obtain ⟨q8, hq8, h⟩ := ps_bd h
      refine ps_callVI C Z (pc := 58) (As := []) (k0 := 45) (mX5_readSet  hq8) (Cn := "PartSumsModel") rfl tw_907 tw_909 tw_32 tw_70 tw_910 hdX5_readSet rfl rfl ⟨by decide, by decide⟩ (by decide) ps_o45 rfl rfl (Nat.le_of_ble_eq_true rfl) dX5_readLine_58 rfl ?_
      obtain ⟨hb9, h⟩ := ps_cb_s h
      obtain rfl := Option.some.inj h
      exact k _ _ hb9 dX5_readLine_61
  · have h := ps_ift hc h
    refine ps_aload_n C (pc := 9) dX5_readLine_9 0 rfl ?_
    refine ps_bipush C (pc := 10) (v := 116) dX5_readLine_10 (by decide) ?_
    refine ps_bipush C (pc := 12) (v := 104) dX5_readLine_12 (by decide) ?_
    refine ps_bipush C (pc := 14) (v := 105) dX5_readLine_14 (by decide) ?_
    refine ps_bipush C (pc := 16) (v := 110) dX5_readLine_16 (by decide) ?_
    refine ps_bipush C (pc := 18) (v := 103) dX5_readLine_18 (by decide) ?_
    refine ps_bipush C (pc := 20) (v := 115) dX5_readLine_20 (by decide) ?_
    obtain ⟨q10, hq10, h⟩ := ps_bd h
    refine ps_callVI C Z (pc := 22) (As := [.int (116 : Int32), .int (104 : Int32), .int (105 : Int32), .int (110 : Int32), .int (103 : Int32), .int (115 : Int32)]) (k0 := 45) (mX5_isWord  hq10) (Cn := "PartSumsModel") rfl tw_892 tw_894 tw_29 tw_70 tw_895 hdX5_isWord rfl rfl ⟨by decide, by decide⟩ (by decide) ps_o45 rfl rfl (Nat.le_of_ble_eq_true rfl) dX5_readLine_22 rfl ?_
    refine ps_if_eq C (pc := 25) 35 dX5_readLine_25 (by decide) (fun hc => ?_) (fun hc => ?_)
    · have h := ps_ift hc h
      refine ps_aload_n C (pc := 35) dX5_readLine_35 0 rfl ?_
      refine ps_iconst C (pc := 36) (v := 1) dX5_readLine_36 (by decide) ?_
      obtain ⟨q11, hq11, h⟩ := ps_bd h
      refine ps_callVI C Z (pc := 37) (As := [.int (1 : Int32)]) (k0 := 45) (mX5_bad  hq11) (Cn := "PartSumsModel") rfl tw_900 tw_902 tw_31 tw_70 tw_903 hdX5_bad rfl rfl ⟨by decide, by decide⟩ (by decide) ps_o45 rfl rfl (Nat.le_of_ble_eq_true rfl) dX5_readLine_37 rfl ?_
      obtain ⟨hb12, h⟩ := ps_cb_s h
      obtain rfl := Option.some.inj h
      exact k _ _ hb12 dX5_readLine_40
    · have h := ps_iff hc h
      refine ps_aload_n C (pc := 28) dX5_readLine_28 0 rfl ?_
      obtain ⟨q13, hq13, h⟩ := ps_bd h
      refine ps_callVI C Z (pc := 29) (As := []) (k0 := 45) (mX5_readThings  hq13) (Cn := "PartSumsModel") rfl tw_896 tw_898 tw_30 tw_70 tw_899 hdX5_readThings rfl rfl ⟨by decide, by decide⟩ (by decide) ps_o45 rfl rfl (Nat.le_of_ble_eq_true rfl) dX5_readLine_29 rfl ?_
      refine ps_goto C (pc := 32) 40 dX5_readLine_32 (by decide) ?_
      obtain ⟨hb14, h⟩ := ps_cb_s h
      obtain rfl := Option.some.inj h
      exact k _ _ hb14 dX5_readLine_40
def rmX5_readLine : Room := { frames := 3, cells := 0, slots := 0, locals := 68 }
theorem mX5_readLine {l : Launch} {E : ps_E} {σ : ps_S}  {r : Int32 × ps_S}  (h : fX5_readLine σ = some r) : ps_MI l yX5_readLine (ps_wm yX5_readLine cX5_readLine 1 (some .boolean)) rmX5_readLine [.ref (e_ad E 45)] E σ r.1 r.2 :=
  ps_metZ yX5_readLine rmX5_readLine 1 (own := "PartSumsModel") r.1 (by decide +kernel) rfl (Nat.le_of_ble_eq_true rfl) rfl (fun z e1 e2 e3 e4 e5 C k => by
    subst e5
    exact tX5_readLine C (ps_Zof e1 e3 e4)  h k)
theorem hdX5_readLine : yX5_readLine.cls ≠ "java/lang/invoke/MethodHandle" ∧ yX5_readLine.cls ≠ "java/lang/invoke/VarHandle" ∧ (parseMethodDescriptor yX5_readLine.desc).map (fun d => d.parameters.length) = some 0 := by decide +kernel
def fX5_readEnd (σ : ps_S) : Option (Int32 × ps_S) :=
  (if (σ.1 45 6) = (4 : Int32) then ((fX5_next σ).bind fun q1 =>
  some ((1 : Int32), q1))
  else ((fX5_bad (1 : Int32) σ).bind fun q2 =>
  (ps_cb q2.1 (some (q2.1, q2.2)))))
set_option maxHeartbeats 4000000 in
set_option maxRecDepth 100000 in
theorem tX5_readEnd {z : ps_X} (C : ps_C z cX5_readEnd 1 "PartSumsModel") (Z : ps_Z z 2 45) {σ : ps_S}  {r : Int32 × ps_S} (h : fX5_readEnd σ = some r) (k : ps_KZ z 1 cX5_readEnd r.1 r.2) : ps_at z 1 0 [(0, .ref (z_ad z 45))] [] σ := by
  unfold fX5_readEnd at h
  refine ps_aload_n C (pc := 0) dX5_readEnd_0 0 rfl ?_
  refine pg_45_6 C (pc := 1) tw_802 dX5_readEnd_1 ?_
  refine ps_iconst C (pc := 4) (v := 4) dX5_readEnd_4 (by decide) ?_
  refine ps_icmp_eq C (pc := 5) 14 dX5_readEnd_5 (by decide) (fun hc => ?_) (fun hc => ?_)
  · have h := ps_ift hc h
    refine ps_aload_n C (pc := 14) dX5_readEnd_14 0 rfl ?_
    obtain ⟨q1, hq1, h⟩ := ps_bd h
    refine ps_callVV C Z (pc := 15) (As := []) (k0 := 45) (mX5_next  hq1) (Cn := "PartSumsModel") rfl tw_874 tw_876 tw_26 tw_70 tw_877 hdX5_next rfl rfl ⟨by decide, by decide⟩ (by decide) ps_o45 rfl rfl (Nat.le_of_ble_eq_true rfl) dX5_readEnd_15 rfl ?_
    refine ps_iconst C (pc := 18) (v := 1) dX5_readEnd_18 (by decide) ?_
    obtain rfl := Option.some.inj h
    exact k _ _ (Or.inr rfl) dX5_readEnd_19
  · have h := ps_iff hc h
    refine ps_aload_n C (pc := 8) dX5_readEnd_8 0 rfl ?_
    refine ps_iconst C (pc := 9) (v := 1) dX5_readEnd_9 (by decide) ?_
    obtain ⟨q2, hq2, h⟩ := ps_bd h
    refine ps_callVI C Z (pc := 10) (As := [.int (1 : Int32)]) (k0 := 45) (mX5_bad  hq2) (Cn := "PartSumsModel") rfl tw_900 tw_902 tw_31 tw_70 tw_903 hdX5_bad rfl rfl ⟨by decide, by decide⟩ (by decide) ps_o45 rfl rfl (Nat.le_of_ble_eq_true rfl) dX5_readEnd_10 rfl ?_
    obtain ⟨hb3, h⟩ := ps_cb_s h
    obtain rfl := Option.some.inj h
    exact k _ _ hb3 dX5_readEnd_13
def rmX5_readEnd : Room := { frames := 2, cells := 0, slots := 0, locals := 45 }
theorem mX5_readEnd {l : Launch} {E : ps_E} {σ : ps_S}  {r : Int32 × ps_S}  (h : fX5_readEnd σ = some r) : ps_MI l yX5_readEnd (ps_wm yX5_readEnd cX5_readEnd 1 (some .boolean)) rmX5_readEnd [.ref (e_ad E 45)] E σ r.1 r.2 :=
  ps_metZ yX5_readEnd rmX5_readEnd 1 (own := "PartSumsModel") r.1 (by decide +kernel) rfl (Nat.le_of_ble_eq_true rfl) rfl (fun z e1 e2 e3 e4 e5 C k => by
    subst e5
    exact tX5_readEnd C (ps_Zof e1 e3 e4)  h k)
theorem hdX5_readEnd : yX5_readEnd.cls ≠ "java/lang/invoke/MethodHandle" ∧ yX5_readEnd.cls ≠ "java/lang/invoke/VarHandle" ∧ (parseMethodDescriptor yX5_readEnd.desc).map (fun d => d.parameters.length) = some 0 := by decide +kernel
def pX5_text_S32 (z : ps_X) (a1 : Int32) (s : Int32 × ps_S) : Prop := ps_at z 3 32 [(0, .ref (z_ad z 45)), (1, .int a1), (2, .int s.1)] [] s.2
def qX5_text_S32 (z : ps_X) (a1 : Int32) (x : (ps_S)) : Prop := match x with | y => ps_at z 3 52 [(0, .ref (z_ad z 45)), (1, .int a1)] [] y
def fX5_text_S32 (a1 : Int32) (a2 : Int32) (σ : ps_S) : Option ((Int32 × ps_S) ⊕ ((ps_S))) :=
  (if (1289 : Int32) ≤ a2 then some (.inr σ)
  else (ps_ck a2 1289 ((ps_let (ps_ui σ 48 (Int32.toNatClampNeg a2) (0 : Int32)) fun σ7 =>
  (ps_let (a2 + (1 : Int32)) fun x8 =>
  some (.inl (x8, σ7)))))))
set_option maxHeartbeats 4000000 in
set_option maxRecDepth 100000 in
theorem tX5_text_S32 {z : ps_X} (C : ps_C z cX5_text 3 "PartSumsModel") (Z : ps_Z z 4 88) (a1 : Int32)  (s : Int32 × ps_S) (r : (Int32 × ps_S) ⊕ ((ps_S))) (h : fX5_text_S32 a1 s.1 s.2 = some r) (k : ps_k (pX5_text_S32 z a1) (qX5_text_S32 z a1) r) : pX5_text_S32 z a1 s := by
  obtain ⟨a2, σ⟩ := s
  unfold fX5_text_S32 at h
  unfold pX5_text_S32
  refine ps_iload_n C (pc := 32) dX5_text_32 2 rfl ?_
  refine ps_sipush C (pc := 33) (v := 1289) dX5_text_33 (by decide) ?_
  refine ps_icmp_ge C (pc := 36) 52 dX5_text_36 (by decide) (fun hc => ?_) (fun hc => ?_)
  · have h := ps_ift hc h
    obtain rfl := Option.some.inj h
    exact ps_sub [0, 1] rfl k
  · have h := ps_iff hc h
    refine ps_aload_n C (pc := 39) dX5_text_39 0 rfl ?_
    refine pg_45_11 C (pc := 40) tw_807 dX5_text_40 ?_
    refine ps_iload_n C (pc := 43) dX5_text_43 2 rfl ?_
    refine ps_iconst C (pc := 44) (v := 0) dX5_text_44 (by decide) ?_
    obtain ⟨hi6, h⟩ := ps_ck_s h
    refine ps_iastL C (pc := 45) 48 rfl rfl hi6 dX5_text_45 h (fun σ7 h => ?_)
    refine ps_iincL C (pc := 46) (zz := 1) (lw := fun x8 => [(2, .int x8), (0, .ref (z_ad z 45)), (1, .int a1)]) dX5_text_46 2 rfl (by decide) (by decide) (fun _ => rfl) h (fun x8 h => ?_)
    refine ps_goto C (pc := 49) 32 dX5_text_49 (by decide) ?_
    obtain rfl := Option.some.inj h
    exact ps_sub [1, 2, 0] rfl k
def pX5_text_S56 (z : ps_X)  (s : Int32 × ps_S) : Prop := ps_at z 3 56 [(0, .ref (z_ad z 45)), (1, .int s.1)] [] s.2
def qX5_text_S56 (z : ps_X)  (x : (ps_S) ⊕ (Int32 × ps_S)) : Prop := match x with | .inl y => ps_at z 3 77 [(0, .ref (z_ad z 45))] [] y | .inr y => ps_at z 3 90 [(0, .ref (z_ad z 45)), (1, .int y.1)] [] y.2
def fX5_text_S56  (a1 : Int32) (σ : ps_S) : Option ((Int32 × ps_S) ⊕ ((ps_S) ⊕ (Int32 × ps_S))) :=
  (if (σ.1 45 6) = 0 then some (.inr (.inr (a1, σ)))
  else ((fX5_readLine σ).bind fun q11 =>
  (if q11.1 = 0 then some (.inr (.inl q11.2))
  else ((fX5_readEnd q11.2).bind fun q12 =>
  (if q12.1 = 0 then some (.inr (.inl q12.2))
  else (ps_let (a1 + (1 : Int32)) fun x13 =>
  some (.inl (x13, q12.2))))))))
set_option maxHeartbeats 4000000 in
set_option maxRecDepth 100000 in
theorem tX5_text_S56 {z : ps_X} (C : ps_C z cX5_text 3 "PartSumsModel") (Z : ps_Z z 4 88)   (s : Int32 × ps_S) (r : (Int32 × ps_S) ⊕ ((ps_S) ⊕ (Int32 × ps_S))) (h : fX5_text_S56  s.1 s.2 = some r) (k : ps_k (pX5_text_S56 z ) (qX5_text_S56 z ) r) : pX5_text_S56 z  s := by
  obtain ⟨a1, σ⟩ := s
  unfold fX5_text_S56 at h
  unfold pX5_text_S56
  refine ps_aload_n C (pc := 56) dX5_text_56 0 rfl ?_
  refine pg_45_6 C (pc := 57) tw_802 dX5_text_57 ?_
  refine ps_if_eq C (pc := 60) 90 dX5_text_60 (by decide) (fun hc => ?_) (fun hc => ?_)
  · have h := ps_ift hc h
    obtain rfl := Option.some.inj h
    exact ps_sub [0, 1] rfl k
  · have h := ps_iff hc h
    refine ps_aload_n C (pc := 63) dX5_text_63 0 rfl ?_
    obtain ⟨q11, hq11, h⟩ := ps_bd h
    refine ps_callVI C Z (pc := 64) (As := []) (k0 := 45) (mX5_readLine  hq11) (Cn := "PartSumsModel") rfl tw_888 tw_890 tw_28 tw_70 tw_891 hdX5_readLine rfl rfl ⟨by decide, by decide⟩ (by decide) ps_o45 rfl rfl (Nat.le_of_ble_eq_true rfl) dX5_text_64 rfl ?_
    refine ps_if_eq C (pc := 67) 77 dX5_text_67 (by decide) (fun hc => ?_) (fun hc => ?_)
    · have h := ps_ift hc h
      obtain rfl := Option.some.inj h
      exact ps_sub [0] rfl k
    · have h := ps_iff hc h
      refine ps_aload_n C (pc := 70) dX5_text_70 0 rfl ?_
      obtain ⟨q12, hq12, h⟩ := ps_bd h
      refine ps_callVI C Z (pc := 71) (As := []) (k0 := 45) (mX5_readEnd  hq12) (Cn := "PartSumsModel") rfl tw_931 tw_933 tw_35 tw_70 tw_934 hdX5_readEnd rfl rfl ⟨by decide, by decide⟩ (by decide) ps_o45 rfl rfl (Nat.le_of_ble_eq_true rfl) dX5_text_71 rfl ?_
      refine ps_if_ne C (pc := 74) 84 dX5_text_74 (by decide) (fun hc => ?_) (fun hc => ?_)
      · have h := ps_iff hc h
        refine ps_iincL C (pc := 84) (zz := 1) (lw := fun x13 => [(1, .int x13), (0, .ref (z_ad z 45))]) dX5_text_84 1 rfl (by decide) (by decide) (fun _ => rfl) h (fun x13 h => ?_)
        refine ps_goto C (pc := 87) 56 dX5_text_87 (by decide) ?_
        obtain rfl := Option.some.inj h
        exact ps_sub [1, 0] rfl k
      · have h := ps_ift hc h
        obtain rfl := Option.some.inj h
        exact ps_sub [0] rfl k
def fX5_text_J77 (σ : ps_S) : Option (Int32 × ps_S) :=
  some (((-1 : Int32) - (σ.1 45 9)), σ)
set_option maxHeartbeats 4000000 in
set_option maxRecDepth 100000 in
theorem tX5_text_J77 {z : ps_X} (C : ps_C z cX5_text 3 "PartSumsModel") (Z : ps_Z z 4 88) {σ : ps_S}  {r : Int32 × ps_S} (h : fX5_text_J77 σ = some r) (k : ps_KI z 3 cX5_text r.1 r.2) : ps_at z 3 77 [(0, .ref (z_ad z 45))] [] σ := by
  unfold fX5_text_J77 at h
  refine ps_iconst C (pc := 77) (v := -1) dX5_text_77 (by decide) ?_
  refine ps_aload_n C (pc := 78) dX5_text_78 0 rfl ?_
  refine pg_45_9 C (pc := 79) tw_805 dX5_text_79 ?_
  refine ps_isub C (pc := 82) dX5_text_82 ?_
  obtain rfl := Option.some.inj h
  exact k _ _ dX5_text_83
def fX5_text (σ : ps_S) : Option (Int32 × ps_S) :=
  (ps_let (ps_ui σ 45 0 (0 : Int32)) fun σ1 =>
  (ps_let (ps_ui σ1 45 3 (σ1.1 45 2)) fun σ2 =>
  (ps_let (ps_ui σ2 45 2 (0 : Int32)) fun σ3 =>
  (ps_let (ps_ui σ3 45 8 (0 : Int32)) fun σ4 =>
  (ps_let (ps_ui σ4 45 4 (0 : Int32)) fun σ5 =>
  ((ps_lp (fun s => fX5_text_S32 (0 : Int32) s.1 s.2) 100000 ((0 : Int32), σ5)).bind fun e9 =>
  ((fX5_next e9).bind fun q10 =>
  ((ps_lp (fun s => fX5_text_S56  s.1 s.2) 100000 ((0 : Int32), q10)).bind fun e14 =>
  match e14 with | .inl y15 => fX5_text_J77 y15 | .inr y16 => ((fX5_copy 48 (0 : Int32) 47 (0 : Int32) y16.2).bind fun q17 =>
  (ps_let (ps_ui q17 45 15 (0 : Int32)) fun σ18 =>
  some (y16.1, σ18)))))))))))
set_option maxHeartbeats 4000000 in
set_option maxRecDepth 100000 in
theorem tX5_text {z : ps_X} (C : ps_C z cX5_text 3 "PartSumsModel") (Z : ps_Z z 4 88) {σ : ps_S}  {r : Int32 × ps_S} (h : fX5_text σ = some r) (k : ps_KI z 3 cX5_text r.1 r.2) : ps_at z 3 0 [(0, .ref (z_ad z 45))] [] σ := by
  unfold fX5_text at h
  refine ps_aload_n C (pc := 0) dX5_text_0 0 rfl ?_
  refine ps_iconst C (pc := 1) (v := 0) dX5_text_1 (by decide) ?_
  refine pp_45_0 C (pc := 2) tw_796 dX5_text_2 h (fun σ1 h => ?_)
  refine ps_aload_n C (pc := 5) dX5_text_5 0 rfl ?_
  refine ps_aload_n C (pc := 6) dX5_text_6 0 rfl ?_
  refine pg_45_2 C (pc := 7) tw_798 dX5_text_7 ?_
  refine pp_45_3 C (pc := 10) tw_799 dX5_text_10 h (fun σ2 h => ?_)
  refine ps_aload_n C (pc := 13) dX5_text_13 0 rfl ?_
  refine ps_iconst C (pc := 14) (v := 0) dX5_text_14 (by decide) ?_
  refine pp_45_2 C (pc := 15) tw_798 dX5_text_15 h (fun σ3 h => ?_)
  refine ps_aload_n C (pc := 18) dX5_text_18 0 rfl ?_
  refine ps_iconst C (pc := 19) (v := 0) dX5_text_19 (by decide) ?_
  refine pp_45_8 C (pc := 20) tw_804 dX5_text_20 h (fun σ4 h => ?_)
  refine ps_aload_n C (pc := 23) dX5_text_23 0 rfl ?_
  refine ps_iconst C (pc := 24) (v := 0) dX5_text_24 (by decide) ?_
  refine pp_45_4 C (pc := 25) tw_800 dX5_text_25 h (fun σ5 h => ?_)
  refine ps_iconst C (pc := 28) (v := 0) dX5_text_28 (by decide) ?_
  refine ps_istore_n C (pc := 29) (lv' := [(1, .int (0 : Int32)), (0, .ref (z_ad z 45))]) dX5_text_29 (by decide) rfl ?_
  refine ps_iconst C (pc := 30) (v := 0) dX5_text_30 (by decide) ?_
  refine ps_istore_n C (pc := 31) (lv' := [(2, .int (0 : Int32)), (1, .int (0 : Int32)), (0, .ref (z_ad z 45))]) dX5_text_31 (by decide) rfl ?_
  obtain ⟨e9, he9, h⟩ := ps_bd h
  refine ps_sub [2, 1, 0] rfl ?_
  refine ps_loop (P := pX5_text_S32 z (0 : Int32)) (K := qX5_text_S32 z (0 : Int32)) (fun s r h k => tX5_text_S32 C Z (0 : Int32)  s r h k) _ _ _ he9 ?_
  unfold qX5_text_S32
  refine ps_aload_n C (pc := 52) dX5_text_52 0 rfl ?_
  obtain ⟨q10, hq10, h⟩ := ps_bd h
  refine ps_callVV C Z (pc := 53) (As := []) (k0 := 45) (mX5_next  hq10) (Cn := "PartSumsModel") rfl tw_874 tw_876 tw_26 tw_70 tw_877 hdX5_next rfl rfl ⟨by decide, by decide⟩ (by decide) ps_o45 rfl rfl (Nat.le_of_ble_eq_true rfl) dX5_text_53 rfl ?_
  obtain ⟨e14, he14, h⟩ := ps_bd h
  refine ps_sub [0, 1] rfl ?_
  refine ps_loop (P := pX5_text_S56 z ) (K := qX5_text_S56 z ) (fun s r h k => tX5_text_S56 C Z   s r h k) _ _ _ he14 ?_
  unfold qX5_text_S56
  rcases e14 with y15 | w_y15
  · exact ps_sub [0] rfl (tX5_text_J77 C Z  h k)
  · generalize w_y15 = y16 at h ⊢
    refine ps_aload_n C (pc := 90) dX5_text_90 0 rfl ?_
    refine pg_45_11 C (pc := 91) tw_807 dX5_text_91 ?_
    refine ps_iconst C (pc := 94) (v := 0) dX5_text_94 (by decide) ?_
    refine ps_aload_n C (pc := 95) dX5_text_95 0 rfl ?_
    refine pg_45_10 C (pc := 96) tw_806 dX5_text_96 ?_
    refine ps_iconst C (pc := 99) (v := 0) dX5_text_99 (by decide) ?_
    obtain ⟨q17, hq17, h⟩ := ps_bd h
    refine ps_callSV C Z (pc := 100) (As := [.ref (z_ad z 48), .int (0 : Int32), .ref (z_ad z 47), .int (0 : Int32)]) (mX5_copy (by rfl) (by rfl) hq17) tw_935 tw_936 tw_70 tw_937 hdX5_copy rfl rfl ⟨by decide, by decide⟩ rfl (Nat.le_of_ble_eq_true rfl) dX5_text_100 rfl ?_
    refine ps_aload_n C (pc := 103) dX5_text_103 0 rfl ?_
    refine ps_iconst C (pc := 104) (v := 0) dX5_text_104 (by decide) ?_
    refine pp_45_15 C (pc := 105) tw_811 dX5_text_105 h (fun σ18 h => ?_)
    refine ps_iload_n C (pc := 108) dX5_text_108 1 rfl ?_
    obtain rfl := Option.some.inj h
    exact k _ _ dX5_text_109
def rmX5_text : Room := { frames := 4, cells := 0, slots := 0, locals := 88 }
theorem mX5_text {l : Launch} {E : ps_E} {σ : ps_S}  {r : Int32 × ps_S}  (h : fX5_text σ = some r) : ps_MI l yX5_text (ps_wm yX5_text cX5_text 3 (some .int)) rmX5_text [.ref (e_ad E 45)] E σ r.1 r.2 :=
  ps_metI yX5_text rmX5_text 3 (own := "PartSumsModel") r.1 (by decide +kernel) rfl (Nat.le_of_ble_eq_true rfl) rfl (fun z e1 e2 e3 e4 e5 C k => by
    subst e5
    exact tX5_text C (ps_Zof e1 e3 e4)  h k)
theorem hdX5_text : yX5_text.cls ≠ "java/lang/invoke/MethodHandle" ∧ yX5_text.cls ≠ "java/lang/invoke/VarHandle" ∧ (parseMethodDescriptor yX5_text.desc).map (fun d => d.parameters.length) = some 0 := by decide +kernel
def fX5_fault (σ : ps_S) : Option (Int32 × ps_S) :=
  (ps_let (ps_ui σ 45 0 (0 : Int32)) fun σ1 =>
  some ((σ1.1 45 8), σ1))
set_option maxHeartbeats 4000000 in
set_option maxRecDepth 100000 in
theorem tX5_fault {z : ps_X} (C : ps_C z cX5_fault 1 "PartSumsModel") (Z : ps_Z z 0 0) {σ : ps_S}  {r : Int32 × ps_S} (h : fX5_fault σ = some r) (k : ps_KI z 1 cX5_fault r.1 r.2) : ps_at z 1 0 [(0, .ref (z_ad z 45))] [] σ := by
  unfold fX5_fault at h
  refine ps_aload_n C (pc := 0) dX5_fault_0 0 rfl ?_
  refine ps_iconst C (pc := 1) (v := 0) dX5_fault_1 (by decide) ?_
  refine pp_45_0 C (pc := 2) tw_796 dX5_fault_2 h (fun σ1 h => ?_)
  refine ps_aload_n C (pc := 5) dX5_fault_5 0 rfl ?_
  refine pg_45_8 C (pc := 6) tw_804 dX5_fault_6 ?_
  obtain rfl := Option.some.inj h
  exact k _ _ dX5_fault_9
def rmX5_fault : Room := { frames := 0, cells := 0, slots := 0, locals := 0 }
theorem mX5_fault {l : Launch} {E : ps_E} {σ : ps_S}  {r : Int32 × ps_S}  (h : fX5_fault σ = some r) : ps_MI l yX5_fault (ps_wm yX5_fault cX5_fault 1 (some .int)) rmX5_fault [.ref (e_ad E 45)] E σ r.1 r.2 :=
  ps_metI yX5_fault rmX5_fault 1 (own := "PartSumsModel") r.1 (by decide +kernel) rfl (Nat.le_of_ble_eq_true rfl) rfl (fun z e1 e2 e3 e4 e5 C k => by
    subst e5
    exact tX5_fault C (ps_Zof e1 e3 e4)  h k)
theorem hdX5_fault : yX5_fault.cls ≠ "java/lang/invoke/MethodHandle" ∧ yX5_fault.cls ≠ "java/lang/invoke/VarHandle" ∧ (parseMethodDescriptor yX5_fault.desc).map (fun d => d.parameters.length) = some 0 := by decide +kernel
