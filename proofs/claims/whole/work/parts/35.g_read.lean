def fX2_hasRoom (σ : ps_S) : Option (Int32) :=
  (if (540 : Int32) < ((σ.1 36 1) + (20 : Int32)) then some (0 : Int32)
  else some (1 : Int32))
set_option maxHeartbeats 4000000 in
set_option maxRecDepth 100000 in
theorem tX2_hasRoom {z : ps_X} (C : ps_C z cX2_hasRoom 1 "PartSums$Reader") (Z : ps_Z z 0 0) {σ : ps_S}  {r : Int32} (h : fX2_hasRoom σ = some r) (k : ps_KZ z 1 cX2_hasRoom r σ) : ps_at z 1 0 [(0, .ref (z_ad z 36))] [] σ := by
  unfold fX2_hasRoom at h
  refine ps_aload_n C (pc := 0) dX2_hasRoom_0 0 rfl ?_
  refine pg_36_1 C (pc := 1) tw_155 dX2_hasRoom_1 ?_
  refine ps_bipush C (pc := 4) (v := 20) dX2_hasRoom_4 (by decide) ?_
  refine ps_iadd C (pc := 6) dX2_hasRoom_6 ?_
  refine ps_sipush C (pc := 7) (v := 540) dX2_hasRoom_7 (by decide) ?_
  refine ps_icmp_gt C (pc := 10) 17 dX2_hasRoom_10 (by decide) (fun hc => ?_) (fun hc => ?_)
  · have h := ps_ift hc h
    refine ps_iconst C (pc := 17) (v := 0) dX2_hasRoom_17 (by decide) ?_
    obtain rfl := Option.some.inj h
    exact k _ _ (Or.inl rfl) dX2_hasRoom_18
  · have h := ps_iff hc h
    refine ps_iconst C (pc := 13) (v := 1) dX2_hasRoom_13 (by decide) ?_
    refine ps_goto C (pc := 14) 18 dX2_hasRoom_14 (by decide) ?_
    obtain rfl := Option.some.inj h
    exact k _ _ (Or.inr rfl) dX2_hasRoom_18
def rmX2_hasRoom : Room := { frames := 0, cells := 0, slots := 0, locals := 0 }
theorem mX2_hasRoom {l : Launch} {E : ps_E} {σ : ps_S}  {r : Int32}  (h : fX2_hasRoom σ = some r) : ps_MI l yX2_hasRoom (ps_wm yX2_hasRoom cX2_hasRoom 1 (some .boolean)) rmX2_hasRoom [.ref (e_ad E 36)] E σ r σ :=
  ps_metZ yX2_hasRoom rmX2_hasRoom 1 (own := "PartSums$Reader") r (by decide +kernel) rfl (Nat.le_of_ble_eq_true rfl) rfl (fun z e1 e2 e3 e4 e5 C k => by
    subst e5
    exact tX2_hasRoom C (ps_Zof e1 e3 e4)  h k)
theorem hdX2_hasRoom : yX2_hasRoom.cls ≠ "java/lang/invoke/MethodHandle" ∧ yX2_hasRoom.cls ≠ "java/lang/invoke/VarHandle" ∧ (parseMethodDescriptor yX2_hasRoom.desc).map (fun d => d.parameters.length) = some 0 := by decide +kernel
def pX2_take_S3 (z : ps_X) (a1 : Int32) (s : Int32 × ps_S) : Prop := ps_at z 3 3 [(0, .ref (z_ad z 36)), (1, .int a1), (2, .int s.1)] [] s.2
def qX2_take_S3 (z : ps_X) (a1 : Int32) (x : (ps_S)) : Prop := match x with | y => ps_at z 3 46 [] [] y
def fX2_take_S3 (a1 : Int32) (a2 : Int32) (σ : ps_S) : Option ((Int32 × ps_S) ⊕ ((ps_S))) :=
  (if a2 < 0 then some (.inr σ)
  else (if (540 : Int32) ≤ (σ.1 36 1) then some (.inr σ)
  else (ps_ck (σ.1 36 1) 540 ((ps_let (ps_ui σ 37 (Int32.toNatClampNeg (σ.1 36 1)) (vp_nar .byte ((Int32.toInt8 ((a1.toUInt32 >>> (Int32.toUInt32 a2 &&& Int32.toUInt32 31)).toInt32)).toInt32))) fun σ2 =>
  (ps_let (ps_ui σ2 36 1 ((σ2.1 36 1) + (1 : Int32))) fun σ3 =>
  (ps_let (a2 + (-8 : Int32)) fun x4 =>
  some (.inl (x4, σ3)))))))))
set_option maxHeartbeats 4000000 in
set_option maxRecDepth 100000 in
theorem tX2_take_S3 {z : ps_X} (C : ps_C z cX2_take 3 "PartSums$Reader") (Z : ps_Z z 0 0) (a1 : Int32)  (s : Int32 × ps_S) (r : (Int32 × ps_S) ⊕ ((ps_S))) (h : fX2_take_S3 a1 s.1 s.2 = some r) (k : ps_k (pX2_take_S3 z a1) (qX2_take_S3 z a1) r) : pX2_take_S3 z a1 s := by
  obtain ⟨a2, σ⟩ := s
  unfold fX2_take_S3 at h
  unfold pX2_take_S3
  refine ps_iload_n C (pc := 3) dX2_take_3 2 rfl ?_
  refine ps_if_lt C (pc := 4) 46 dX2_take_4 (by decide) (fun hc => ?_) (fun hc => ?_)
  · have h := ps_ift hc h
    obtain rfl := Option.some.inj h
    exact ps_sub [] rfl k
  · have h := ps_iff hc h
    refine ps_aload_n C (pc := 7) dX2_take_7 0 rfl ?_
    refine pg_36_1 C (pc := 8) tw_155 dX2_take_8 ?_
    refine ps_sipush C (pc := 11) (v := 540) dX2_take_11 (by decide) ?_
    refine ps_icmp_ge C (pc := 14) 46 dX2_take_14 (by decide) (fun hc => ?_) (fun hc => ?_)
    · have h := ps_ift hc h
      obtain rfl := Option.some.inj h
      exact ps_sub [] rfl k
    · have h := ps_iff hc h
      refine ps_aload_n C (pc := 17) dX2_take_17 0 rfl ?_
      refine pg_36_0 C (pc := 18) tw_154 dX2_take_18 ?_
      refine ps_aload_n C (pc := 21) dX2_take_21 0 rfl ?_
      refine pg_36_1 C (pc := 22) tw_155 dX2_take_22 ?_
      refine ps_iload_n C (pc := 25) dX2_take_25 1 rfl ?_
      refine ps_iload_n C (pc := 26) dX2_take_26 2 rfl ?_
      refine ps_iushr C (pc := 27) dX2_take_27 ?_
      refine ps_i2b C (pc := 28) dX2_take_28 ?_
      obtain ⟨hi1, h⟩ := ps_ck_s h
      refine ps_bastL C (pc := 29) 37 rfl rfl hi1 dX2_take_29 h (fun σ2 h => ?_)
      refine ps_aload_n C (pc := 30) dX2_take_30 0 rfl ?_
      refine ps_dup C (pc := 31) dX2_take_31 rfl ?_
      refine pg_36_1 C (pc := 32) tw_155 dX2_take_32 ?_
      refine ps_iconst C (pc := 35) (v := 1) dX2_take_35 (by decide) ?_
      refine ps_iadd C (pc := 36) dX2_take_36 ?_
      refine pp_36_1 C (pc := 37) tw_155 dX2_take_37 h (fun σ3 h => ?_)
      refine ps_iincL C (pc := 40) (zz := -8) (lw := fun x4 => [(2, .int x4), (0, .ref (z_ad z 36)), (1, .int a1)]) dX2_take_40 2 rfl (by decide) (by decide) (fun _ => rfl) h (fun x4 h => ?_)
      refine ps_goto C (pc := 43) 3 dX2_take_43 (by decide) ?_
      obtain rfl := Option.some.inj h
      exact ps_sub [1, 2, 0] rfl k
def fX2_take (a1 : Int32) (σ : ps_S) : Option (ps_S) :=
  ((ps_lp (fun s => fX2_take_S3 a1 s.1 s.2) 100000 ((24 : Int32), σ)).bind fun e5 =>
  some e5)
set_option maxHeartbeats 4000000 in
set_option maxRecDepth 100000 in
theorem tX2_take {z : ps_X} (C : ps_C z cX2_take 3 "PartSums$Reader") (Z : ps_Z z 0 0) {a1 : Int32} {σ : ps_S}  {r : ps_S} (h : fX2_take a1 σ = some r) (k : ps_KV z 3 cX2_take r) : ps_at z 3 0 [(0, .ref (z_ad z 36)), (1, .int a1)] [] σ := by
  unfold fX2_take at h
  refine ps_bipush C (pc := 0) (v := 24) dX2_take_0 (by decide) ?_
  refine ps_istore_n C (pc := 2) (lv' := [(2, .int (24 : Int32)), (0, .ref (z_ad z 36)), (1, .int a1)]) dX2_take_2 (by decide) rfl ?_
  obtain ⟨e5, he5, h⟩ := ps_bd h
  refine ps_sub [1, 2, 0] rfl ?_
  refine ps_loop (P := pX2_take_S3 z a1) (K := qX2_take_S3 z a1) (fun s r h k => tX2_take_S3 C Z a1  s r h k) _ _ _ he5 ?_
  unfold qX2_take_S3
  obtain rfl := Option.some.inj h
  exact k _ _ dX2_take_46
def rmX2_take : Room := { frames := 0, cells := 0, slots := 0, locals := 0 }
theorem mX2_take {l : Launch} {E : ps_E} {σ : ps_S} {a1 : Int32} {r : ps_S}  (h : fX2_take a1 σ = some r) : ps_MV l yX2_take (ps_wm yX2_take cX2_take 3 none) rmX2_take [.ref (e_ad E 36), .int a1] E σ r :=
  ps_metV yX2_take rmX2_take 3 (own := "PartSums$Reader")  (by decide +kernel) rfl (Nat.le_of_ble_eq_true rfl) rfl (fun z e1 e2 e3 e4 e5 C k => by
    subst e5
    exact tX2_take C (ps_Zof e1 e3 e4)  h k)
theorem hdX2_take : yX2_take.cls ≠ "java/lang/invoke/MethodHandle" ∧ yX2_take.cls ≠ "java/lang/invoke/VarHandle" ∧ (parseMethodDescriptor yX2_take.desc).map (fun d => d.parameters.length) = some 1 := by decide +kernel
def fX2_isLetter (a0 : Int32) : Option (Int32) :=
  (if a0 < (97 : Int32) then some (0 : Int32)
  else (if (122 : Int32) < a0 then some (0 : Int32)
  else some (1 : Int32)))
set_option maxHeartbeats 4000000 in
set_option maxRecDepth 100000 in
theorem tX2_isLetter {z : ps_X} (C : ps_C z cX2_isLetter 1 "PartSums$Reader") (Z : ps_Z z 0 0) {a0 : Int32}  {σ : ps_S} {r : Int32} (h : fX2_isLetter a0 = some r) (k : ps_KZ z 1 cX2_isLetter r σ) : ps_at z 1 0 [(0, .int a0)] [] σ := by
  unfold fX2_isLetter at h
  refine ps_iload_n C (pc := 0) dX2_isLetter_0 0 rfl ?_
  refine ps_bipush C (pc := 1) (v := 97) dX2_isLetter_1 (by decide) ?_
  refine ps_icmp_lt C (pc := 3) 16 dX2_isLetter_3 (by decide) (fun hc => ?_) (fun hc => ?_)
  · have h := ps_ift hc h
    refine ps_iconst C (pc := 16) (v := 0) dX2_isLetter_16 (by decide) ?_
    obtain rfl := Option.some.inj h
    exact k _ _ (Or.inl rfl) dX2_isLetter_17
  · have h := ps_iff hc h
    refine ps_iload_n C (pc := 6) dX2_isLetter_6 0 rfl ?_
    refine ps_bipush C (pc := 7) (v := 122) dX2_isLetter_7 (by decide) ?_
    refine ps_icmp_gt C (pc := 9) 16 dX2_isLetter_9 (by decide) (fun hc => ?_) (fun hc => ?_)
    · have h := ps_ift hc h
      refine ps_iconst C (pc := 16) (v := 0) dX2_isLetter_16 (by decide) ?_
      obtain rfl := Option.some.inj h
      exact k _ _ (Or.inl rfl) dX2_isLetter_17
    · have h := ps_iff hc h
      refine ps_iconst C (pc := 12) (v := 1) dX2_isLetter_12 (by decide) ?_
      refine ps_goto C (pc := 13) 17 dX2_isLetter_13 (by decide) ?_
      obtain rfl := Option.some.inj h
      exact k _ _ (Or.inr rfl) dX2_isLetter_17
def rmX2_isLetter : Room := { frames := 0, cells := 0, slots := 0, locals := 0 }
theorem mX2_isLetter {l : Launch} {E : ps_E} {σ : ps_S} {a0 : Int32} {r : Int32}  (h : fX2_isLetter a0 = some r) : ps_MI l yX2_isLetter (ps_wm yX2_isLetter cX2_isLetter 1 (some .boolean)) rmX2_isLetter [.int a0] E σ r σ :=
  ps_metZ yX2_isLetter rmX2_isLetter 1 (own := "PartSums$Reader") r (by decide +kernel) rfl (Nat.le_of_ble_eq_true rfl) rfl (fun z e1 e2 e3 e4 e5 C k => by
    subst e5
    exact tX2_isLetter C (ps_Zof e1 e3 e4)  h k)
theorem hdX2_isLetter : yX2_isLetter.cls ≠ "java/lang/invoke/MethodHandle" ∧ yX2_isLetter.cls ≠ "java/lang/invoke/VarHandle" ∧ (parseMethodDescriptor yX2_isLetter.desc).map (fun d => d.parameters.length) = some 1 := by decide +kernel
def fX2_isDigit (a0 : Int32) : Option (Int32) :=
  (if a0 < (48 : Int32) then some (0 : Int32)
  else (if (57 : Int32) < a0 then some (0 : Int32)
  else some (1 : Int32)))
set_option maxHeartbeats 4000000 in
set_option maxRecDepth 100000 in
theorem tX2_isDigit {z : ps_X} (C : ps_C z cX2_isDigit 1 "PartSums$Reader") (Z : ps_Z z 0 0) {a0 : Int32}  {σ : ps_S} {r : Int32} (h : fX2_isDigit a0 = some r) (k : ps_KZ z 1 cX2_isDigit r σ) : ps_at z 1 0 [(0, .int a0)] [] σ := by
  unfold fX2_isDigit at h
  refine ps_iload_n C (pc := 0) dX2_isDigit_0 0 rfl ?_
  refine ps_bipush C (pc := 1) (v := 48) dX2_isDigit_1 (by decide) ?_
  refine ps_icmp_lt C (pc := 3) 16 dX2_isDigit_3 (by decide) (fun hc => ?_) (fun hc => ?_)
  · have h := ps_ift hc h
    refine ps_iconst C (pc := 16) (v := 0) dX2_isDigit_16 (by decide) ?_
    obtain rfl := Option.some.inj h
    exact k _ _ (Or.inl rfl) dX2_isDigit_17
  · have h := ps_iff hc h
    refine ps_iload_n C (pc := 6) dX2_isDigit_6 0 rfl ?_
    refine ps_bipush C (pc := 7) (v := 57) dX2_isDigit_7 (by decide) ?_
    refine ps_icmp_gt C (pc := 9) 16 dX2_isDigit_9 (by decide) (fun hc => ?_) (fun hc => ?_)
    · have h := ps_ift hc h
      refine ps_iconst C (pc := 16) (v := 0) dX2_isDigit_16 (by decide) ?_
      obtain rfl := Option.some.inj h
      exact k _ _ (Or.inl rfl) dX2_isDigit_17
    · have h := ps_iff hc h
      refine ps_iconst C (pc := 12) (v := 1) dX2_isDigit_12 (by decide) ?_
      refine ps_goto C (pc := 13) 17 dX2_isDigit_13 (by decide) ?_
      obtain rfl := Option.some.inj h
      exact k _ _ (Or.inr rfl) dX2_isDigit_17
def rmX2_isDigit : Room := { frames := 0, cells := 0, slots := 0, locals := 0 }
theorem mX2_isDigit {l : Launch} {E : ps_E} {σ : ps_S} {a0 : Int32} {r : Int32}  (h : fX2_isDigit a0 = some r) : ps_MI l yX2_isDigit (ps_wm yX2_isDigit cX2_isDigit 1 (some .boolean)) rmX2_isDigit [.int a0] E σ r σ :=
  ps_metZ yX2_isDigit rmX2_isDigit 1 (own := "PartSums$Reader") r (by decide +kernel) rfl (Nat.le_of_ble_eq_true rfl) rfl (fun z e1 e2 e3 e4 e5 C k => by
    subst e5
    exact tX2_isDigit C (ps_Zof e1 e3 e4)  h k)
theorem hdX2_isDigit : yX2_isDigit.cls ≠ "java/lang/invoke/MethodHandle" ∧ yX2_isDigit.cls ≠ "java/lang/invoke/VarHandle" ∧ (parseMethodDescriptor yX2_isDigit.desc).map (fun d => d.parameters.length) = some 1 := by decide +kernel
def pX2_readRun_S10 (z : ps_X)  (s : Int32 × ps_S) : Prop := ps_at z 2 10 [(0, .ref (z_ad z 36)), (1, .int s.1)] [] s.2
def qX2_readRun_S10 (z : ps_X)  (x : (Int32 × ps_S)) : Prop := match x with | y => ps_at z 2 87 [(0, .ref (z_ad z 36)), (1, .int y.1)] [] y.2
def fX2_readRun_J72 (u0 : Int32) (u1 : Int32) (σ : ps_S) : Option ((Int32 × ps_S) ⊕ ((Int32 × ps_S))) :=
  (ps_let (u1 + u0) fun x6 =>
  (ps_let (ps_ui σ 36 9 ((σ.1 36 9) + (1 : Int32))) fun σ7 =>
  some (.inl (x6, σ7))))
set_option maxHeartbeats 4000000 in
set_option maxRecDepth 100000 in
theorem tX2_readRun_J72 {z : ps_X} (C : ps_C z cX2_readRun 2 "PartSums$Reader") (Z : ps_Z z 1 20) {u0 : Int32} {u1 : Int32} {σ : ps_S}  {r : (Int32 × ps_S) ⊕ ((Int32 × ps_S))} (h : fX2_readRun_J72 u0 u1 σ = some r) (k : ps_k (pX2_readRun_S10 z ) (qX2_readRun_S10 z ) r) : ps_at z 2 72 [(0, .ref (z_ad z 36))] [.int u0, .int u1] σ := by
  unfold fX2_readRun_J72 at h
  refine ps_iadd C (pc := 72) dX2_readRun_72 ?_
  refine ps_istoreL_n C (pc := 73) (lw := fun x6 => [(1, .int x6), (0, .ref (z_ad z 36))]) dX2_readRun_73 (by decide) (fun _ => rfl) h (fun x6 h => ?_)
  refine ps_aload_n C (pc := 74) dX2_readRun_74 1 rfl ?_
  refine ps_dup C (pc := 75) dX2_readRun_75 rfl ?_
  refine pg_36_9 C (pc := 76) tw_169 dX2_readRun_76 ?_
  refine ps_iconst C (pc := 79) (v := 1) dX2_readRun_79 (by decide) ?_
  refine ps_iadd C (pc := 80) dX2_readRun_80 ?_
  refine pp_36_9 C (pc := 81) tw_169 dX2_readRun_81 h (fun σ7 h => ?_)
  refine ps_goto C (pc := 84) 10 dX2_readRun_84 (by decide) ?_
  obtain rfl := Option.some.inj h
  exact ps_sub [1, 0] rfl k
def fX2_readRun_J51 (a1 : Int32) (σ : ps_S) : Option ((Int32 × ps_S) ⊕ ((Int32 × ps_S))) :=
  (ps_ck (σ.1 36 9) 540 (((fX2_isDigit (σ.1 37 (Int32.toNatClampNeg (σ.1 36 9)))).bind fun q5 =>
  (if q5 = 0 then fX2_readRun_J72 (0 : Int32) a1 σ
  else fX2_readRun_J72 (1 : Int32) a1 σ))))
set_option maxHeartbeats 4000000 in
set_option maxRecDepth 100000 in
theorem tX2_readRun_J51 {z : ps_X} (C : ps_C z cX2_readRun 2 "PartSums$Reader") (Z : ps_Z z 1 20) {a1 : Int32} {σ : ps_S}  {r : (Int32 × ps_S) ⊕ ((Int32 × ps_S))} (h : fX2_readRun_J51 a1 σ = some r) (k : ps_k (pX2_readRun_S10 z ) (qX2_readRun_S10 z ) r) : ps_at z 2 51 [(0, .ref (z_ad z 36)), (1, .int a1)] [] σ := by
  unfold fX2_readRun_J51 at h
  refine ps_iload_n C (pc := 51) dX2_readRun_51 1 rfl ?_
  refine ps_aload_n C (pc := 52) dX2_readRun_52 0 rfl ?_
  refine pg_36_0 C (pc := 53) tw_154 dX2_readRun_53 ?_
  refine ps_aload_n C (pc := 56) dX2_readRun_56 0 rfl ?_
  refine pg_36_9 C (pc := 57) tw_169 dX2_readRun_57 ?_
  obtain ⟨hi4, h⟩ := ps_ck_s h
  refine ps_bald C (pc := 60) 37 rfl rfl hi4 dX2_readRun_60 ?_
  obtain ⟨q5, hq5, h⟩ := ps_bd h
  refine ps_callSI C Z (pc := 61) (As := [.int (σ.1 37 (Int32.toNatClampNeg (σ.1 36 9)))]) (mX2_isDigit  hq5) tw_276 tw_277 tw_68 tw_278 hdX2_isDigit rfl rfl ⟨by decide, by decide⟩ rfl (Nat.le_of_ble_eq_true rfl) dX2_readRun_61 rfl ?_
  refine ps_if_eq C (pc := 64) 71 dX2_readRun_64 (by decide) (fun hc => ?_) (fun hc => ?_)
  · have h := ps_ift hc h
    refine ps_iconst C (pc := 71) (v := 0) dX2_readRun_71 (by decide) ?_
    exact ps_sub [0] rfl (tX2_readRun_J72 C Z  h k)
  · have h := ps_iff hc h
    refine ps_iconst C (pc := 67) (v := 1) dX2_readRun_67 (by decide) ?_
    refine ps_goto C (pc := 68) 72 dX2_readRun_68 (by decide) ?_
    exact ps_sub [0] rfl (tX2_readRun_J72 C Z  h k)
def fX2_readRun_S10  (a1 : Int32) (σ : ps_S) : Option ((Int32 × ps_S) ⊕ ((Int32 × ps_S))) :=
  (if (σ.1 36 1) ≤ (σ.1 36 9) then some (.inr (a1, σ))
  else (ps_ck (σ.1 36 9) 540 (((fX2_isLetter (σ.1 37 (Int32.toNatClampNeg (σ.1 36 9)))).bind fun q3 =>
  (if q3 = 0 then (ps_ck (σ.1 36 9) 540 (((fX2_isDigit (σ.1 37 (Int32.toNatClampNeg (σ.1 36 9)))).bind fun q9 =>
  (if q9 = 0 then some (.inr (a1, σ))
  else fX2_readRun_J51 a1 σ))))
  else fX2_readRun_J51 a1 σ)))))
set_option maxHeartbeats 4000000 in
set_option maxRecDepth 100000 in
theorem tX2_readRun_S10 {z : ps_X} (C : ps_C z cX2_readRun 2 "PartSums$Reader") (Z : ps_Z z 1 20)   (s : Int32 × ps_S) (r : (Int32 × ps_S) ⊕ ((Int32 × ps_S))) (h : fX2_readRun_S10  s.1 s.2 = some r) (k : ps_k (pX2_readRun_S10 z ) (qX2_readRun_S10 z ) r) : pX2_readRun_S10 z  s := by
  obtain ⟨a1, σ⟩ := s
  unfold fX2_readRun_S10 at h
  unfold pX2_readRun_S10
  refine ps_aload_n C (pc := 10) dX2_readRun_10 0 rfl ?_
  refine pg_36_9 C (pc := 11) tw_169 dX2_readRun_11 ?_
  refine ps_aload_n C (pc := 14) dX2_readRun_14 0 rfl ?_
  refine pg_36_1 C (pc := 15) tw_155 dX2_readRun_15 ?_
  refine ps_icmp_ge C (pc := 18) 87 dX2_readRun_18 (by decide) (fun hc => ?_) (fun hc => ?_)
  · have h := ps_ift hc h
    obtain rfl := Option.some.inj h
    exact ps_sub [0, 1] rfl k
  · have h := ps_iff hc h
    refine ps_aload_n C (pc := 21) dX2_readRun_21 0 rfl ?_
    refine pg_36_0 C (pc := 22) tw_154 dX2_readRun_22 ?_
    refine ps_aload_n C (pc := 25) dX2_readRun_25 0 rfl ?_
    refine pg_36_9 C (pc := 26) tw_169 dX2_readRun_26 ?_
    obtain ⟨hi2, h⟩ := ps_ck_s h
    refine ps_bald C (pc := 29) 37 rfl rfl hi2 dX2_readRun_29 ?_
    obtain ⟨q3, hq3, h⟩ := ps_bd h
    refine ps_callSI C Z (pc := 30) (As := [.int (σ.1 37 (Int32.toNatClampNeg (σ.1 36 9)))]) (mX2_isLetter  hq3) tw_273 tw_274 tw_68 tw_275 hdX2_isLetter rfl rfl ⟨by decide, by decide⟩ rfl (Nat.le_of_ble_eq_true rfl) dX2_readRun_30 rfl ?_
    refine ps_if_ne C (pc := 33) 51 dX2_readRun_33 (by decide) (fun hc => ?_) (fun hc => ?_)
    · have h := ps_iff hc h
      exact ps_sub [0, 1] rfl (tX2_readRun_J51 C Z  h k)
    · have h := ps_ift hc h
      refine ps_aload_n C (pc := 36) dX2_readRun_36 0 rfl ?_
      refine pg_36_0 C (pc := 37) tw_154 dX2_readRun_37 ?_
      refine ps_aload_n C (pc := 40) dX2_readRun_40 0 rfl ?_
      refine pg_36_9 C (pc := 41) tw_169 dX2_readRun_41 ?_
      obtain ⟨hi8, h⟩ := ps_ck_s h
      refine ps_bald C (pc := 44) 37 rfl rfl hi8 dX2_readRun_44 ?_
      obtain ⟨q9, hq9, h⟩ := ps_bd h
      refine ps_callSI C Z (pc := 45) (As := [.int (σ.1 37 (Int32.toNatClampNeg (σ.1 36 9)))]) (mX2_isDigit  hq9) tw_276 tw_277 tw_68 tw_278 hdX2_isDigit rfl rfl ⟨by decide, by decide⟩ rfl (Nat.le_of_ble_eq_true rfl) dX2_readRun_45 rfl ?_
      refine ps_if_eq C (pc := 48) 87 dX2_readRun_48 (by decide) (fun hc => ?_) (fun hc => ?_)
      · have h := ps_ift hc h
        obtain rfl := Option.some.inj h
        exact ps_sub [0, 1] rfl k
      · have h := ps_iff hc h
        exact ps_sub [0, 1] rfl (tX2_readRun_J51 C Z  h k)
def fX2_readRun_J87 (a1 : Int32) (σ : ps_S) : Option (ps_S) :=
  (if a1 = 0 then (ps_let (ps_ui σ 36 7 (1 : Int32)) fun σ14 =>
  some σ14)
  else (if a1 = ((σ.1 36 9) - (σ.1 36 8)) then (if (3 : Int32) < a1 then (ps_let (ps_ui σ 36 7 (4 : Int32)) fun σ12 =>
  some σ12)
  else (ps_let (ps_ui σ 36 7 (2 : Int32)) fun σ13 =>
  some σ13))
  else (ps_let (ps_ui σ 36 7 (4 : Int32)) fun σ11 =>
  some σ11)))
set_option maxHeartbeats 4000000 in
set_option maxRecDepth 100000 in
theorem tX2_readRun_J87 {z : ps_X} (C : ps_C z cX2_readRun 2 "PartSums$Reader") (Z : ps_Z z 1 20) {a1 : Int32} {σ : ps_S}  {r : ps_S} (h : fX2_readRun_J87 a1 σ = some r) (k : ps_KV z 2 cX2_readRun r) : ps_at z 2 87 [(0, .ref (z_ad z 36)), (1, .int a1)] [] σ := by
  unfold fX2_readRun_J87 at h
  refine ps_iload_n C (pc := 87) dX2_readRun_87 1 rfl ?_
  refine ps_if_ne C (pc := 88) 99 dX2_readRun_88 (by decide) (fun hc => ?_) (fun hc => ?_)
  · have h := ps_iff hc h
    refine ps_aload_n C (pc := 99) dX2_readRun_99 0 rfl ?_
    refine ps_iload_n C (pc := 100) dX2_readRun_100 1 rfl ?_
    refine ps_aload_n C (pc := 101) dX2_readRun_101 0 rfl ?_
    refine pg_36_9 C (pc := 102) tw_169 dX2_readRun_102 ?_
    refine ps_aload_n C (pc := 105) dX2_readRun_105 0 rfl ?_
    refine pg_36_8 C (pc := 106) tw_168 dX2_readRun_106 ?_
    refine ps_isub C (pc := 109) dX2_readRun_109 ?_
    refine ps_icmp_ne C (pc := 110) 122 dX2_readRun_110 (by decide) (fun hc => ?_) (fun hc => ?_)
    · have h := ps_iff hc h
      refine ps_iconst C (pc := 122) (v := 4) dX2_readRun_122 (by decide) ?_
      refine pp_36_7 C (pc := 123) tw_167 dX2_readRun_123 h (fun σ11 h => ?_)
      obtain rfl := Option.some.inj h
      exact k _ _ dX2_readRun_126
    · have h := ps_ift hc h
      refine ps_iload_n C (pc := 113) dX2_readRun_113 1 rfl ?_
      refine ps_iconst C (pc := 114) (v := 3) dX2_readRun_114 (by decide) ?_
      refine ps_icmp_gt C (pc := 115) 122 dX2_readRun_115 (by decide) (fun hc => ?_) (fun hc => ?_)
      · have h := ps_ift hc h
        refine ps_iconst C (pc := 122) (v := 4) dX2_readRun_122 (by decide) ?_
        refine pp_36_7 C (pc := 123) tw_167 dX2_readRun_123 h (fun σ12 h => ?_)
        obtain rfl := Option.some.inj h
        exact k _ _ dX2_readRun_126
      · have h := ps_iff hc h
        refine ps_iconst C (pc := 118) (v := 2) dX2_readRun_118 (by decide) ?_
        refine ps_goto C (pc := 119) 123 dX2_readRun_119 (by decide) ?_
        refine pp_36_7 C (pc := 123) tw_167 dX2_readRun_123 h (fun σ13 h => ?_)
        obtain rfl := Option.some.inj h
        exact k _ _ dX2_readRun_126
  · have h := ps_ift hc h
    refine ps_aload_n C (pc := 91) dX2_readRun_91 0 rfl ?_
    refine ps_iconst C (pc := 92) (v := 1) dX2_readRun_92 (by decide) ?_
    refine pp_36_7 C (pc := 93) tw_167 dX2_readRun_93 h (fun σ14 h => ?_)
    refine ps_goto C (pc := 96) 126 dX2_readRun_96 (by decide) ?_
    obtain rfl := Option.some.inj h
    exact k _ _ dX2_readRun_126
def fX2_readRun (σ : ps_S) : Option (ps_S) :=
  (ps_let (ps_ui σ 36 9 (σ.1 36 8)) fun σ1 =>
  ((ps_lp (fun s => fX2_readRun_S10  s.1 s.2) 100000 ((0 : Int32), σ1)).bind fun e10 =>
  fX2_readRun_J87 e10.1 e10.2))
set_option maxHeartbeats 4000000 in
set_option maxRecDepth 100000 in
theorem tX2_readRun {z : ps_X} (C : ps_C z cX2_readRun 2 "PartSums$Reader") (Z : ps_Z z 1 20) {σ : ps_S}  {r : ps_S} (h : fX2_readRun σ = some r) (k : ps_KV z 2 cX2_readRun r) : ps_at z 2 0 [(0, .ref (z_ad z 36))] [] σ := by
  unfold fX2_readRun at h
  refine ps_iconst C (pc := 0) (v := 0) dX2_readRun_0 (by decide) ?_
  refine ps_istore_n C (pc := 1) (lv' := [(1, .int (0 : Int32)), (0, .ref (z_ad z 36))]) dX2_readRun_1 (by decide) rfl ?_
  refine ps_aload_n C (pc := 2) dX2_readRun_2 1 rfl ?_
  refine ps_aload_n C (pc := 3) dX2_readRun_3 1 rfl ?_
  refine pg_36_8 C (pc := 4) tw_168 dX2_readRun_4 ?_
  refine pp_36_9 C (pc := 7) tw_169 dX2_readRun_7 h (fun σ1 h => ?_)
  obtain ⟨e10, he10, h⟩ := ps_bd h
  refine ps_sub [1, 0] rfl ?_
  refine ps_loop (P := pX2_readRun_S10 z ) (K := qX2_readRun_S10 z ) (fun s r h k => tX2_readRun_S10 C Z   s r h k) _ _ _ he10 ?_
  unfold qX2_readRun_S10
  exact ps_sub [0, 1] rfl (tX2_readRun_J87 C Z  h k)
def rmX2_readRun : Room := { frames := 1, cells := 0, slots := 0, locals := 20 }
theorem mX2_readRun {l : Launch} {E : ps_E} {σ : ps_S}  {r : ps_S}  (h : fX2_readRun σ = some r) : ps_MV l yX2_readRun (ps_wm yX2_readRun cX2_readRun 2 none) rmX2_readRun [.ref (e_ad E 36)] E σ r :=
  ps_metV yX2_readRun rmX2_readRun 2 (own := "PartSums$Reader")  (by decide +kernel) rfl (Nat.le_of_ble_eq_true rfl) rfl (fun z e1 e2 e3 e4 e5 C k => by
    subst e5
    exact tX2_readRun C (ps_Zof e1 e3 e4)  h k)
theorem hdX2_readRun : yX2_readRun.cls ≠ "java/lang/invoke/MethodHandle" ∧ yX2_readRun.cls ≠ "java/lang/invoke/VarHandle" ∧ (parseMethodDescriptor yX2_readRun.desc).map (fun d => d.parameters.length) = some 0 := by decide +kernel
def pX2_nextToken_S19 (z : ps_X) (a1 : Int32) (s : ps_S) : Prop := ps_at z 2 19 [(0, .ref (z_ad z 36)), (1, .int a1)] [] s
def qX2_nextToken_S19 (z : ps_X) (a1 : Int32) (x : (ps_S)) : Prop := match x with | y => ps_at z 2 68 [(0, .ref (z_ad z 36)), (1, .int a1)] [] y
def fX2_nextToken_J55 (a1 : Int32) (σ : ps_S) : Option ((ps_S) ⊕ ((ps_S))) :=
  (ps_let (ps_ui σ 36 8 ((σ.1 36 8) + (1 : Int32))) fun σ4 =>
  some (.inl σ4))
set_option maxHeartbeats 4000000 in
set_option maxRecDepth 100000 in
theorem tX2_nextToken_J55 {z : ps_X} (C : ps_C z cX2_nextToken 2 "PartSums$Reader") (Z : ps_Z z 2 100) {a1 : Int32} {σ : ps_S}  {r : (ps_S) ⊕ ((ps_S))} (h : fX2_nextToken_J55 a1 σ = some r) (k : ps_k (pX2_nextToken_S19 z a1) (qX2_nextToken_S19 z a1) r) : ps_at z 2 55 [(0, .ref (z_ad z 36)), (1, .int a1)] [] σ := by
  unfold fX2_nextToken_J55 at h
  refine ps_aload_n C (pc := 55) dX2_nextToken_55 0 rfl ?_
  refine ps_dup C (pc := 56) dX2_nextToken_56 rfl ?_
  refine pg_36_8 C (pc := 57) tw_168 dX2_nextToken_57 ?_
  refine ps_iconst C (pc := 60) (v := 1) dX2_nextToken_60 (by decide) ?_
  refine ps_iadd C (pc := 61) dX2_nextToken_61 ?_
  refine pp_36_8 C (pc := 62) tw_168 dX2_nextToken_62 h (fun σ4 h => ?_)
  refine ps_goto C (pc := 65) 19 dX2_nextToken_65 (by decide) ?_
  obtain rfl := Option.some.inj h
  exact ps_sub [0, 1] rfl k
def fX2_nextToken_S19 (a1 : Int32) (σ : ps_S) : Option ((ps_S) ⊕ ((ps_S))) :=
  (if a1 ≤ (σ.1 36 8) then some (.inr σ)
  else (ps_ck (σ.1 36 8) 540 ((if (σ.1 37 (Int32.toNatClampNeg (σ.1 36 8))) = (32 : Int32) then fX2_nextToken_J55 a1 σ
  else (ps_ck (σ.1 36 8) 540 ((if (σ.1 37 (Int32.toNatClampNeg (σ.1 36 8))) = (10 : Int32) then fX2_nextToken_J55 a1 σ
  else some (.inr σ))))))))
set_option maxHeartbeats 4000000 in
set_option maxRecDepth 100000 in
theorem tX2_nextToken_S19 {z : ps_X} (C : ps_C z cX2_nextToken 2 "PartSums$Reader") (Z : ps_Z z 2 100) (a1 : Int32)  (s : ps_S) (r : (ps_S) ⊕ ((ps_S))) (h : fX2_nextToken_S19 a1 s = some r) (k : ps_k (pX2_nextToken_S19 z a1) (qX2_nextToken_S19 z a1) r) : pX2_nextToken_S19 z a1 s := by
  generalize s = σ at h ⊢
  unfold fX2_nextToken_S19 at h
  unfold pX2_nextToken_S19
  refine ps_aload_n C (pc := 19) dX2_nextToken_19 0 rfl ?_
  refine pg_36_8 C (pc := 20) tw_168 dX2_nextToken_20 ?_
  refine ps_iload_n C (pc := 23) dX2_nextToken_23 1 rfl ?_
  refine ps_icmp_ge C (pc := 24) 68 dX2_nextToken_24 (by decide) (fun hc => ?_) (fun hc => ?_)
  · have h := ps_ift hc h
    obtain rfl := Option.some.inj h
    exact ps_sub [0, 1] rfl k
  · have h := ps_iff hc h
    refine ps_aload_n C (pc := 27) dX2_nextToken_27 0 rfl ?_
    refine pg_36_0 C (pc := 28) tw_154 dX2_nextToken_28 ?_
    refine ps_aload_n C (pc := 31) dX2_nextToken_31 0 rfl ?_
    refine pg_36_8 C (pc := 32) tw_168 dX2_nextToken_32 ?_
    obtain ⟨hi3, h⟩ := ps_ck_s h
    refine ps_bald C (pc := 35) 37 rfl rfl hi3 dX2_nextToken_35 ?_
    refine ps_bipush C (pc := 36) (v := 32) dX2_nextToken_36 (by decide) ?_
    refine ps_icmp_eq C (pc := 38) 55 dX2_nextToken_38 (by decide) (fun hc => ?_) (fun hc => ?_)
    · have h := ps_ift hc h
      exact ps_sub [0, 1] rfl (tX2_nextToken_J55 C Z  h k)
    · have h := ps_iff hc h
      refine ps_aload_n C (pc := 41) dX2_nextToken_41 0 rfl ?_
      refine pg_36_0 C (pc := 42) tw_154 dX2_nextToken_42 ?_
      refine ps_aload_n C (pc := 45) dX2_nextToken_45 0 rfl ?_
      refine pg_36_8 C (pc := 46) tw_168 dX2_nextToken_46 ?_
      obtain ⟨hi5, h⟩ := ps_ck_s h
      refine ps_bald C (pc := 49) 37 rfl rfl hi5 dX2_nextToken_49 ?_
      refine ps_bipush C (pc := 50) (v := 10) dX2_nextToken_50 (by decide) ?_
      refine ps_icmp_ne C (pc := 52) 68 dX2_nextToken_52 (by decide) (fun hc => ?_) (fun hc => ?_)
      · have h := ps_iff hc h
        obtain rfl := Option.some.inj h
        exact ps_sub [0, 1] rfl k
      · have h := ps_ift hc h
        exact ps_sub [0, 1] rfl (tX2_nextToken_J55 C Z  h k)
def fX2_nextToken_J127 (u0 : Int32) (σ : ps_S) : Option (ps_S) :=
  (ps_let (ps_ui σ 36 7 u0) fun σ9 =>
  (ps_let (ps_ui σ9 36 9 ((σ9.1 36 9) + (1 : Int32))) fun σ10 =>
  some σ10))
set_option maxHeartbeats 4000000 in
set_option maxRecDepth 100000 in
theorem tX2_nextToken_J127 {z : ps_X} (C : ps_C z cX2_nextToken 2 "PartSums$Reader") (Z : ps_Z z 2 100) {u0 : Int32} {σ : ps_S}  {r : ps_S} (h : fX2_nextToken_J127 u0 σ = some r) (k : ps_KV z 2 cX2_nextToken r) : ps_at z 2 127 [(0, .ref (z_ad z 36))] [.int u0, .ref (z_ad z 36)] σ := by
  unfold fX2_nextToken_J127 at h
  refine pp_36_7 C (pc := 127) tw_167 dX2_nextToken_127 h (fun σ9 h => ?_)
  refine ps_aload_n C (pc := 130) dX2_nextToken_130 0 rfl ?_
  refine ps_dup C (pc := 131) dX2_nextToken_131 rfl ?_
  refine pg_36_9 C (pc := 132) tw_169 dX2_nextToken_132 ?_
  refine ps_iconst C (pc := 135) (v := 1) dX2_nextToken_135 (by decide) ?_
  refine ps_iadd C (pc := 136) dX2_nextToken_136 ?_
  refine pp_36_9 C (pc := 137) tw_169 dX2_nextToken_137 h (fun σ10 h => ?_)
  obtain rfl := Option.some.inj h
  exact k _ _ dX2_nextToken_140
def fX2_nextToken_J68 (a1 : Int32) (σ : ps_S) : Option (ps_S) :=
  (if (σ.1 36 8) < a1 then ((fX2_readRun σ).bind fun q7 =>
  (if (q7.1 36 9) = (q7.1 36 8) then (ps_ck (q7.1 36 8) 540 ((if (q7.1 37 (Int32.toNatClampNeg (q7.1 36 8))) = (59 : Int32) then fX2_nextToken_J127 (3 : Int32) q7
  else fX2_nextToken_J127 (4 : Int32) q7)))
  else some q7))
  else (ps_let (ps_ui σ 36 8 a1) fun σ11 =>
  (ps_let (ps_ui σ11 36 9 a1) fun σ12 =>
  (ps_let (ps_ui σ12 36 7 (0 : Int32)) fun σ13 =>
  some σ13))))
set_option maxHeartbeats 4000000 in
set_option maxRecDepth 100000 in
theorem tX2_nextToken_J68 {z : ps_X} (C : ps_C z cX2_nextToken 2 "PartSums$Reader") (Z : ps_Z z 2 100) {a1 : Int32} {σ : ps_S}  {r : ps_S} (h : fX2_nextToken_J68 a1 σ = some r) (k : ps_KV z 2 cX2_nextToken r) : ps_at z 2 68 [(0, .ref (z_ad z 36)), (1, .int a1)] [] σ := by
  unfold fX2_nextToken_J68 at h
  refine ps_aload_n C (pc := 68) dX2_nextToken_68 0 rfl ?_
  refine pg_36_8 C (pc := 69) tw_168 dX2_nextToken_69 ?_
  refine ps_iload_n C (pc := 72) dX2_nextToken_72 1 rfl ?_
  refine ps_icmp_lt C (pc := 73) 92 dX2_nextToken_73 (by decide) (fun hc => ?_) (fun hc => ?_)
  · have h := ps_ift hc h
    refine ps_aload_n C (pc := 92) dX2_nextToken_92 0 rfl ?_
    obtain ⟨q7, hq7, h⟩ := ps_bd h
    refine ps_callVV C Z (pc := 93) (As := []) (k0 := 36) (mX2_readRun  hq7) (Cn := "PartSums$Reader") rfl tw_269 tw_271 tw_2 tw_68 tw_272 hdX2_readRun rfl rfl ⟨by decide, by decide⟩ (by decide) ps_o36 rfl rfl (Nat.le_of_ble_eq_true rfl) dX2_nextToken_93 rfl ?_
    refine ps_aload_n C (pc := 96) dX2_nextToken_96 0 rfl ?_
    refine pg_36_9 C (pc := 97) tw_169 dX2_nextToken_97 ?_
    refine ps_aload_n C (pc := 100) dX2_nextToken_100 0 rfl ?_
    refine pg_36_8 C (pc := 101) tw_168 dX2_nextToken_101 ?_
    refine ps_icmp_ne C (pc := 104) 140 dX2_nextToken_104 (by decide) (fun hc => ?_) (fun hc => ?_)
    · have h := ps_iff hc h
      obtain rfl := Option.some.inj h
      exact k _ _ dX2_nextToken_140
    · have h := ps_ift hc h
      refine ps_aload_n C (pc := 107) dX2_nextToken_107 0 rfl ?_
      refine ps_aload_n C (pc := 108) dX2_nextToken_108 0 rfl ?_
      refine pg_36_0 C (pc := 109) tw_154 dX2_nextToken_109 ?_
      refine ps_aload_n C (pc := 112) dX2_nextToken_112 0 rfl ?_
      refine pg_36_8 C (pc := 113) tw_168 dX2_nextToken_113 ?_
      obtain ⟨hi8, h⟩ := ps_ck_s h
      refine ps_bald C (pc := 116) 37 rfl rfl hi8 dX2_nextToken_116 ?_
      refine ps_bipush C (pc := 117) (v := 59) dX2_nextToken_117 (by decide) ?_
      refine ps_icmp_ne C (pc := 119) 126 dX2_nextToken_119 (by decide) (fun hc => ?_) (fun hc => ?_)
      · have h := ps_iff hc h
        refine ps_iconst C (pc := 126) (v := 4) dX2_nextToken_126 (by decide) ?_
        exact ps_sub [0] rfl (tX2_nextToken_J127 C Z  h k)
      · have h := ps_ift hc h
        refine ps_iconst C (pc := 122) (v := 3) dX2_nextToken_122 (by decide) ?_
        refine ps_goto C (pc := 123) 127 dX2_nextToken_123 (by decide) ?_
        exact ps_sub [0] rfl (tX2_nextToken_J127 C Z  h k)
  · have h := ps_iff hc h
    refine ps_aload_n C (pc := 76) dX2_nextToken_76 0 rfl ?_
    refine ps_iload_n C (pc := 77) dX2_nextToken_77 1 rfl ?_
    refine pp_36_8 C (pc := 78) tw_168 dX2_nextToken_78 h (fun σ11 h => ?_)
    refine ps_aload_n C (pc := 81) dX2_nextToken_81 0 rfl ?_
    refine ps_iload_n C (pc := 82) dX2_nextToken_82 1 rfl ?_
    refine pp_36_9 C (pc := 83) tw_169 dX2_nextToken_83 h (fun σ12 h => ?_)
    refine ps_aload_n C (pc := 86) dX2_nextToken_86 0 rfl ?_
    refine ps_iconst C (pc := 87) (v := 0) dX2_nextToken_87 (by decide) ?_
    refine pp_36_7 C (pc := 88) tw_167 dX2_nextToken_88 h (fun σ13 h => ?_)
    obtain rfl := Option.some.inj h
    exact k _ _ dX2_nextToken_91
def fX2_nextToken (σ : ps_S) : Option (ps_S) :=
  (ps_let (if (500 : Int32) < (σ.1 36 1) then (500 : Int32) else (σ.1 36 1)) fun x1 =>
  (ps_let (ps_ui σ 36 8 (σ.1 36 9)) fun σ2 =>
  ((ps_lp (fun s => fX2_nextToken_S19 x1 s) 100000 σ2).bind fun e6 =>
  fX2_nextToken_J68 x1 e6)))
set_option maxHeartbeats 4000000 in
set_option maxRecDepth 100000 in
theorem tX2_nextToken {z : ps_X} (C : ps_C z cX2_nextToken 2 "PartSums$Reader") (Z : ps_Z z 2 100) {σ : ps_S}  {r : ps_S} (h : fX2_nextToken σ = some r) (k : ps_KV z 2 cX2_nextToken r) : ps_at z 2 0 [(0, .ref (z_ad z 36))] [] σ := by
  unfold fX2_nextToken at h
  refine ps_aload_n C (pc := 0) dX2_nextToken_0 0 rfl ?_
  refine pg_36_1 C (pc := 1) tw_155 dX2_nextToken_1 ?_
  refine ps_sipush C (pc := 4) (v := 500) dX2_nextToken_4 (by decide) ?_
  refine ps_minZ C Z (pc := 7) tw_266 tw_267 tw_71 tw_268 (by decide) (Nat.le_of_ble_eq_true rfl) dX2_nextToken_7 ?_
  refine ps_istoreL_n C (pc := 10) (lw := fun x1 => [(1, .int x1), (0, .ref (z_ad z 36))]) dX2_nextToken_10 (by decide) (fun _ => rfl) h (fun x1 h => ?_)
  refine ps_aload_n C (pc := 11) dX2_nextToken_11 1 rfl ?_
  refine ps_aload_n C (pc := 12) dX2_nextToken_12 1 rfl ?_
  refine pg_36_9 C (pc := 13) tw_169 dX2_nextToken_13 ?_
  refine pp_36_8 C (pc := 16) tw_168 dX2_nextToken_16 h (fun σ2 h => ?_)
  obtain ⟨e6, he6, h⟩ := ps_bd h
  refine ps_sub [1, 0] rfl ?_
  refine ps_loop (P := pX2_nextToken_S19 z x1) (K := qX2_nextToken_S19 z x1) (fun s r h k => tX2_nextToken_S19 C Z x1  s r h k) _ _ _ he6 ?_
  unfold qX2_nextToken_S19
  exact ps_sub [0, 1] rfl (tX2_nextToken_J68 C Z  h k)
def rmX2_nextToken : Room := { frames := 2, cells := 0, slots := 0, locals := 100 }
theorem mX2_nextToken {l : Launch} {E : ps_E} {σ : ps_S}  {r : ps_S}  (h : fX2_nextToken σ = some r) : ps_MV l yX2_nextToken (ps_wm yX2_nextToken cX2_nextToken 2 none) rmX2_nextToken [.ref (e_ad E 36)] E σ r :=
  ps_metV yX2_nextToken rmX2_nextToken 2 (own := "PartSums$Reader")  (by decide +kernel) rfl (Nat.le_of_ble_eq_true rfl) rfl (fun z e1 e2 e3 e4 e5 C k => by
    subst e5
    exact tX2_nextToken C (ps_Zof e1 e3 e4)  h k)
theorem hdX2_nextToken : yX2_nextToken.cls ≠ "java/lang/invoke/MethodHandle" ∧ yX2_nextToken.cls ≠ "java/lang/invoke/VarHandle" ∧ (parseMethodDescriptor yX2_nextToken.desc).map (fun d => d.parameters.length) = some 0 := by decide +kernel
def pX2_numberRead_S7 (z : ps_X)  (σ : ps_S) (s : Int32 × Int32) : Prop := ps_at z 3 7 [(0, .ref (z_ad z 36)), (1, .int s.1), (2, .int s.2)] [] σ
def qX2_numberRead_S7 (z : ps_X)  (σ : ps_S) (x : (Int32)) : Prop := match x with | y => ps_at z 3 36 [(1, .int y)] [] σ
def fX2_numberRead_S7  (σ : ps_S) (a1 : Int32) (a2 : Int32) : Option ((Int32 × Int32) ⊕ ((Int32))) :=
  (if (σ.1 36 9) ≤ a2 then some (.inr a1)
  else (ps_ck a2 540 ((ps_let ((a1 * (10 : Int32)) + ((σ.1 37 (Int32.toNatClampNeg a2)) - (48 : Int32))) fun x3 =>
  (ps_let (a2 + (1 : Int32)) fun x4 =>
  some (.inl (x3, x4)))))))
set_option maxHeartbeats 4000000 in
set_option maxRecDepth 100000 in
theorem tX2_numberRead_S7 {z : ps_X} (C : ps_C z cX2_numberRead 3 "PartSums$Reader") (Z : ps_Z z 0 0)  (σ : ps_S)  (s : Int32 × Int32) (r : (Int32 × Int32) ⊕ ((Int32))) (h : fX2_numberRead_S7  σ s.1 s.2 = some r) (k : ps_k (pX2_numberRead_S7 z σ) (qX2_numberRead_S7 z σ) r) : pX2_numberRead_S7 z σ s := by
  obtain ⟨a1, a2⟩ := s
  unfold fX2_numberRead_S7 at h
  unfold pX2_numberRead_S7
  refine ps_iload_n C (pc := 7) dX2_numberRead_7 2 rfl ?_
  refine ps_aload_n C (pc := 8) dX2_numberRead_8 0 rfl ?_
  refine pg_36_9 C (pc := 9) tw_169 dX2_numberRead_9 ?_
  refine ps_icmp_ge C (pc := 12) 36 dX2_numberRead_12 (by decide) (fun hc => ?_) (fun hc => ?_)
  · have h := ps_ift hc h
    obtain rfl := Option.some.inj h
    exact ps_sub [1] rfl k
  · have h := ps_iff hc h
    refine ps_iload_n C (pc := 15) dX2_numberRead_15 1 rfl ?_
    refine ps_bipush C (pc := 16) (v := 10) dX2_numberRead_16 (by decide) ?_
    refine ps_imul C (pc := 18) dX2_numberRead_18 ?_
    refine ps_aload_n C (pc := 19) dX2_numberRead_19 0 rfl ?_
    refine pg_36_0 C (pc := 20) tw_154 dX2_numberRead_20 ?_
    refine ps_iload_n C (pc := 23) dX2_numberRead_23 2 rfl ?_
    obtain ⟨hi2, h⟩ := ps_ck_s h
    refine ps_bald C (pc := 24) 37 rfl rfl hi2 dX2_numberRead_24 ?_
    refine ps_bipush C (pc := 25) (v := 48) dX2_numberRead_25 (by decide) ?_
    refine ps_isub C (pc := 27) dX2_numberRead_27 ?_
    refine ps_iadd C (pc := 28) dX2_numberRead_28 ?_
    refine ps_istoreL_n C (pc := 29) (lw := fun x3 => [(1, .int x3), (0, .ref (z_ad z 36)), (2, .int a2)]) dX2_numberRead_29 (by decide) (fun _ => rfl) h (fun x3 h => ?_)
    refine ps_iincL C (pc := 30) (zz := 1) (lw := fun x4 => [(2, .int x4), (1, .int x3), (0, .ref (z_ad z 36))]) dX2_numberRead_30 2 rfl (by decide) (by decide) (fun _ => rfl) h (fun x4 h => ?_)
    refine ps_goto C (pc := 33) 7 dX2_numberRead_33 (by decide) ?_
    obtain rfl := Option.some.inj h
    exact ps_sub [2, 1, 0] rfl k
def fX2_numberRead (σ : ps_S) : Option (Int32) :=
  (ps_let (σ.1 36 8) fun x1 =>
  ((ps_lp (fun s => fX2_numberRead_S7 σ s.1 s.2) 100000 ((0 : Int32), x1)).bind fun e5 =>
  some e5))
set_option maxHeartbeats 4000000 in
set_option maxRecDepth 100000 in
theorem tX2_numberRead {z : ps_X} (C : ps_C z cX2_numberRead 3 "PartSums$Reader") (Z : ps_Z z 0 0) {σ : ps_S}  {r : Int32} (h : fX2_numberRead σ = some r) (k : ps_KI z 3 cX2_numberRead r σ) : ps_at z 3 0 [(0, .ref (z_ad z 36))] [] σ := by
  unfold fX2_numberRead at h
  refine ps_iconst C (pc := 0) (v := 0) dX2_numberRead_0 (by decide) ?_
  refine ps_istore_n C (pc := 1) (lv' := [(1, .int (0 : Int32)), (0, .ref (z_ad z 36))]) dX2_numberRead_1 (by decide) rfl ?_
  refine ps_aload_n C (pc := 2) dX2_numberRead_2 1 rfl ?_
  refine pg_36_8 C (pc := 3) tw_168 dX2_numberRead_3 ?_
  refine ps_istoreL_n C (pc := 6) (lw := fun x1 => [(2, .int x1), (1, .int (0 : Int32)), (0, .ref (z_ad z 36))]) dX2_numberRead_6 (by decide) (fun _ => rfl) h (fun x1 h => ?_)
  obtain ⟨e5, he5, h⟩ := ps_bd h
  refine ps_sub [2, 1, 0] rfl ?_
  refine ps_loop (P := pX2_numberRead_S7 z σ) (K := qX2_numberRead_S7 z σ) (fun s r h k => tX2_numberRead_S7 C Z σ  s r h k) _ _ _ he5 ?_
  unfold qX2_numberRead_S7
  refine ps_iload_n C (pc := 36) dX2_numberRead_36 0 rfl ?_
  obtain rfl := Option.some.inj h
  exact k _ _ dX2_numberRead_37
def rmX2_numberRead : Room := { frames := 0, cells := 0, slots := 0, locals := 0 }
theorem mX2_numberRead {l : Launch} {E : ps_E} {σ : ps_S}  {r : Int32}  (h : fX2_numberRead σ = some r) : ps_MI l yX2_numberRead (ps_wm yX2_numberRead cX2_numberRead 3 (some .int)) rmX2_numberRead [.ref (e_ad E 36)] E σ r σ :=
  ps_metI yX2_numberRead rmX2_numberRead 3 (own := "PartSums$Reader") r (by decide +kernel) rfl (Nat.le_of_ble_eq_true rfl) rfl (fun z e1 e2 e3 e4 e5 C k => by
    subst e5
    exact tX2_numberRead C (ps_Zof e1 e3 e4)  h k)
theorem hdX2_numberRead : yX2_numberRead.cls ≠ "java/lang/invoke/MethodHandle" ∧ yX2_numberRead.cls ≠ "java/lang/invoke/VarHandle" ∧ (parseMethodDescriptor yX2_numberRead.desc).map (fun d => d.parameters.length) = some 0 := by decide +kernel
def pX2_lettersRead_S7 (z : ps_X)  (σ : ps_S) (s : Int32 × Int32) : Prop := ps_at z 4 7 [(0, .ref (z_ad z 36)), (1, .int s.1), (2, .int s.2)] [] σ
def qX2_lettersRead_S7 (z : ps_X)  (σ : ps_S) (x : (Unit) ⊕ (Int32)) : Prop := match x with | .inl y => ps_at z 4 46 [] [] σ | .inr y => ps_at z 4 60 [(1, .int y)] [] σ
def fX2_lettersRead_S7  (σ : ps_S) (a1 : Int32) (a2 : Int32) : Option ((Int32 × Int32) ⊕ ((Unit) ⊕ (Int32))) :=
  (if (σ.1 36 9) ≤ a2 then some (.inr (.inr a1))
  else (ps_ck a2 540 ((ps_let ((σ.1 37 (Int32.toNatClampNeg a2)) - (97 : Int32)) fun x3 =>
  (if x3 < 0 then some (.inr (.inl ()))
  else (if (σ.1 36 4) ≤ x3 then some (.inr (.inl ()))
  else (if ((a1 >>> (x3 &&& 31)) &&& (1 : Int32)) = (1 : Int32) then some (.inr (.inl ()))
  else (ps_let (a1 ||| ((1 : Int32) <<< (x3 &&& 31))) fun x4 =>
  (ps_let (a2 + (1 : Int32)) fun x5 =>
  some (.inl (x4, x5)))))))))))
set_option maxHeartbeats 4000000 in
set_option maxRecDepth 100000 in
theorem tX2_lettersRead_S7 {z : ps_X} (C : ps_C z cX2_lettersRead 4 "PartSums$Reader") (Z : ps_Z z 0 0)  (σ : ps_S)  (s : Int32 × Int32) (r : (Int32 × Int32) ⊕ ((Unit) ⊕ (Int32))) (h : fX2_lettersRead_S7  σ s.1 s.2 = some r) (k : ps_k (pX2_lettersRead_S7 z σ) (qX2_lettersRead_S7 z σ) r) : pX2_lettersRead_S7 z σ s := by
  obtain ⟨a1, a2⟩ := s
  unfold fX2_lettersRead_S7 at h
  unfold pX2_lettersRead_S7
  refine ps_iload_n C (pc := 7) dX2_lettersRead_7 2 rfl ?_
  refine ps_aload_n C (pc := 8) dX2_lettersRead_8 0 rfl ?_
  refine pg_36_9 C (pc := 9) tw_169 dX2_lettersRead_9 ?_
  refine ps_icmp_ge C (pc := 12) 60 dX2_lettersRead_12 (by decide) (fun hc => ?_) (fun hc => ?_)
  · have h := ps_ift hc h
    obtain rfl := Option.some.inj h
    exact ps_sub [1] rfl k
  · have h := ps_iff hc h
    refine ps_aload_n C (pc := 15) dX2_lettersRead_15 0 rfl ?_
    refine pg_36_0 C (pc := 16) tw_154 dX2_lettersRead_16 ?_
    refine ps_iload_n C (pc := 19) dX2_lettersRead_19 2 rfl ?_
    obtain ⟨hi2, h⟩ := ps_ck_s h
    refine ps_bald C (pc := 20) 37 rfl rfl hi2 dX2_lettersRead_20 ?_
    refine ps_bipush C (pc := 21) (v := 97) dX2_lettersRead_21 (by decide) ?_
    refine ps_isub C (pc := 23) dX2_lettersRead_23 ?_
    refine ps_istoreL_n C (pc := 24) (lw := fun x3 => [(3, .int x3), (0, .ref (z_ad z 36)), (1, .int a1), (2, .int a2)]) dX2_lettersRead_24 (by decide) (fun _ => rfl) h (fun x3 h => ?_)
    refine ps_iload_n C (pc := 25) dX2_lettersRead_25 0 rfl ?_
    refine ps_if_lt C (pc := 26) 46 dX2_lettersRead_26 (by decide) (fun hc => ?_) (fun hc => ?_)
    · have h := ps_ift hc h
      obtain rfl := Option.some.inj h
      exact ps_sub [] rfl k
    · have h := ps_iff hc h
      refine ps_iload_n C (pc := 29) dX2_lettersRead_29 0 rfl ?_
      refine ps_aload_n C (pc := 30) dX2_lettersRead_30 1 rfl ?_
      refine pg_36_4 C (pc := 31) tw_161 dX2_lettersRead_31 ?_
      refine ps_icmp_ge C (pc := 34) 46 dX2_lettersRead_34 (by decide) (fun hc => ?_) (fun hc => ?_)
      · have h := ps_ift hc h
        obtain rfl := Option.some.inj h
        exact ps_sub [] rfl k
      · have h := ps_iff hc h
        refine ps_iload_n C (pc := 37) dX2_lettersRead_37 2 rfl ?_
        refine ps_iload_n C (pc := 38) dX2_lettersRead_38 0 rfl ?_
        refine ps_ishr C (pc := 39) dX2_lettersRead_39 ?_
        refine ps_iconst C (pc := 40) (v := 1) dX2_lettersRead_40 (by decide) ?_
        refine ps_iand C (pc := 41) dX2_lettersRead_41 ?_
        refine ps_iconst C (pc := 42) (v := 1) dX2_lettersRead_42 (by decide) ?_
        refine ps_icmp_ne C (pc := 43) 48 dX2_lettersRead_43 (by decide) (fun hc => ?_) (fun hc => ?_)
        · have h := ps_iff hc h
          refine ps_iload_n C (pc := 48) dX2_lettersRead_48 2 rfl ?_
          refine ps_iconst C (pc := 49) (v := 1) dX2_lettersRead_49 (by decide) ?_
          refine ps_iload_n C (pc := 50) dX2_lettersRead_50 0 rfl ?_
          refine ps_ishl C (pc := 51) dX2_lettersRead_51 ?_
          refine ps_ior C (pc := 52) dX2_lettersRead_52 ?_
          refine ps_istoreL_n C (pc := 53) (lw := fun x4 => [(1, .int x4), (3, .int x3), (0, .ref (z_ad z 36)), (2, .int a2)]) dX2_lettersRead_53 (by decide) (fun _ => rfl) h (fun x4 h => ?_)
          refine ps_iincL C (pc := 54) (zz := 1) (lw := fun x5 => [(2, .int x5), (1, .int x4), (3, .int x3), (0, .ref (z_ad z 36))]) dX2_lettersRead_54 3 rfl (by decide) (by decide) (fun _ => rfl) h (fun x5 h => ?_)
          refine ps_goto C (pc := 57) 7 dX2_lettersRead_57 (by decide) ?_
          obtain rfl := Option.some.inj h
          exact ps_sub [3, 1, 0] rfl k
        · have h := ps_ift hc h
          obtain rfl := Option.some.inj h
          exact ps_sub [] rfl k
def fX2_lettersRead (σ : ps_S) : Option (Int32) :=
  (ps_let (σ.1 36 8) fun x1 =>
  ((ps_lp (fun s => fX2_lettersRead_S7 σ s.1 s.2) 100000 ((0 : Int32), x1)).bind fun e6 =>
  match e6 with | .inl y7 => some (-1 : Int32) | .inr y8 => some y8))
set_option maxHeartbeats 4000000 in
set_option maxRecDepth 100000 in
theorem tX2_lettersRead {z : ps_X} (C : ps_C z cX2_lettersRead 4 "PartSums$Reader") (Z : ps_Z z 0 0) {σ : ps_S}  {r : Int32} (h : fX2_lettersRead σ = some r) (k : ps_KI z 4 cX2_lettersRead r σ) : ps_at z 4 0 [(0, .ref (z_ad z 36))] [] σ := by
  unfold fX2_lettersRead at h
  refine ps_iconst C (pc := 0) (v := 0) dX2_lettersRead_0 (by decide) ?_
  refine ps_istore_n C (pc := 1) (lv' := [(1, .int (0 : Int32)), (0, .ref (z_ad z 36))]) dX2_lettersRead_1 (by decide) rfl ?_
  refine ps_aload_n C (pc := 2) dX2_lettersRead_2 1 rfl ?_
  refine pg_36_8 C (pc := 3) tw_168 dX2_lettersRead_3 ?_
  refine ps_istoreL_n C (pc := 6) (lw := fun x1 => [(2, .int x1), (1, .int (0 : Int32)), (0, .ref (z_ad z 36))]) dX2_lettersRead_6 (by decide) (fun _ => rfl) h (fun x1 h => ?_)
  obtain ⟨e6, he6, h⟩ := ps_bd h
  refine ps_sub [2, 1, 0] rfl ?_
  refine ps_loop (P := pX2_lettersRead_S7 z σ) (K := qX2_lettersRead_S7 z σ) (fun s r h k => tX2_lettersRead_S7 C Z σ  s r h k) _ _ _ he6 ?_
  unfold qX2_lettersRead_S7
  rcases e6 with y7 | w_y7
  · refine ps_iconst C (pc := 46) (v := -1) dX2_lettersRead_46 (by decide) ?_
    obtain rfl := Option.some.inj h
    exact k _ _ dX2_lettersRead_47
  · generalize w_y7 = y8 at h ⊢
    refine ps_iload_n C (pc := 60) dX2_lettersRead_60 0 rfl ?_
    obtain rfl := Option.some.inj h
    exact k _ _ dX2_lettersRead_61
def rmX2_lettersRead : Room := { frames := 0, cells := 0, slots := 0, locals := 0 }
theorem mX2_lettersRead {l : Launch} {E : ps_E} {σ : ps_S}  {r : Int32}  (h : fX2_lettersRead σ = some r) : ps_MI l yX2_lettersRead (ps_wm yX2_lettersRead cX2_lettersRead 4 (some .int)) rmX2_lettersRead [.ref (e_ad E 36)] E σ r σ :=
  ps_metI yX2_lettersRead rmX2_lettersRead 4 (own := "PartSums$Reader") r (by decide +kernel) rfl (Nat.le_of_ble_eq_true rfl) rfl (fun z e1 e2 e3 e4 e5 C k => by
    subst e5
    exact tX2_lettersRead C (ps_Zof e1 e3 e4)  h k)
theorem hdX2_lettersRead : yX2_lettersRead.cls ≠ "java/lang/invoke/MethodHandle" ∧ yX2_lettersRead.cls ≠ "java/lang/invoke/VarHandle" ∧ (parseMethodDescriptor yX2_lettersRead.desc).map (fun d => d.parameters.length) = some 0 := by decide +kernel
def fX2_blame (a1 : Int32) (σ : ps_S) : Option (Int32 × ps_S) :=
  (ps_let (ps_ui σ 36 2 a1) fun σ1 =>
  (ps_let (ps_ui σ1 36 3 (σ1.1 36 8)) fun σ2 =>
  some ((0 : Int32), σ2)))
set_option maxHeartbeats 4000000 in
set_option maxRecDepth 100000 in
theorem tX2_blame {z : ps_X} (C : ps_C z cX2_blame 2 "PartSums$Reader") (Z : ps_Z z 0 0) {a1 : Int32} {σ : ps_S}  {r : Int32 × ps_S} (h : fX2_blame a1 σ = some r) (k : ps_KZ z 2 cX2_blame r.1 r.2) : ps_at z 2 0 [(0, .ref (z_ad z 36)), (1, .int a1)] [] σ := by
  unfold fX2_blame at h
  refine ps_aload_n C (pc := 0) dX2_blame_0 0 rfl ?_
  refine ps_iload_n C (pc := 1) dX2_blame_1 1 rfl ?_
  refine pp_36_2 C (pc := 2) tw_157 dX2_blame_2 h (fun σ1 h => ?_)
  refine ps_aload_n C (pc := 5) dX2_blame_5 0 rfl ?_
  refine ps_aload_n C (pc := 6) dX2_blame_6 0 rfl ?_
  refine pg_36_8 C (pc := 7) tw_168 dX2_blame_7 ?_
  refine pp_36_3 C (pc := 10) tw_160 dX2_blame_10 h (fun σ2 h => ?_)
  refine ps_iconst C (pc := 13) (v := 0) dX2_blame_13 (by decide) ?_
  obtain rfl := Option.some.inj h
  exact k _ _ (Or.inl rfl) dX2_blame_14
def rmX2_blame : Room := { frames := 0, cells := 0, slots := 0, locals := 0 }
theorem mX2_blame {l : Launch} {E : ps_E} {σ : ps_S} {a1 : Int32} {r : Int32 × ps_S}  (h : fX2_blame a1 σ = some r) : ps_MI l yX2_blame (ps_wm yX2_blame cX2_blame 2 (some .boolean)) rmX2_blame [.ref (e_ad E 36), .int a1] E σ r.1 r.2 :=
  ps_metZ yX2_blame rmX2_blame 2 (own := "PartSums$Reader") r.1 (by decide +kernel) rfl (Nat.le_of_ble_eq_true rfl) rfl (fun z e1 e2 e3 e4 e5 C k => by
    subst e5
    exact tX2_blame C (ps_Zof e1 e3 e4)  h k)
theorem hdX2_blame : yX2_blame.cls ≠ "java/lang/invoke/MethodHandle" ∧ yX2_blame.cls ≠ "java/lang/invoke/VarHandle" ∧ (parseMethodDescriptor yX2_blame.desc).map (fun d => d.parameters.length) = some 1 := by decide +kernel
def fX2_readThings_J34 (σ : ps_S) : Option (Int32 × ps_S) :=
  ((fX2_blame (2 : Int32) σ).bind fun q3 =>
  (ps_cb q3.1 (some (q3.1, q3.2))))
set_option maxHeartbeats 4000000 in
set_option maxRecDepth 100000 in
theorem tX2_readThings_J34 {z : ps_X} (C : ps_C z cX2_readThings 2 "PartSums$Reader") (Z : ps_Z z 3 121) {σ : ps_S}  {r : Int32 × ps_S} (h : fX2_readThings_J34 σ = some r) (k : ps_KZ z 2 cX2_readThings r.1 r.2) : ps_at z 2 34 [(0, .ref (z_ad z 36))] [] σ := by
  unfold fX2_readThings_J34 at h
  refine ps_aload_n C (pc := 34) dX2_readThings_34 0 rfl ?_
  refine ps_iconst C (pc := 35) (v := 2) dX2_readThings_35 (by decide) ?_
  obtain ⟨q3, hq3, h⟩ := ps_bd h
  refine ps_callVI C Z (pc := 36) (As := [.int (2 : Int32)]) (k0 := 36) (mX2_blame  hq3) (Cn := "PartSums$Reader") rfl tw_336 tw_338 tw_5 tw_68 tw_339 hdX2_blame rfl rfl ⟨by decide, by decide⟩ (by decide) ps_o36 rfl rfl (Nat.le_of_ble_eq_true rfl) dX2_readThings_36 rfl ?_
  obtain ⟨hb4, h⟩ := ps_cb_s h
  obtain rfl := Option.some.inj h
  exact k _ _ hb4 dX2_readThings_39
def fX2_readThings_J65 (σ : ps_S) : Option (Int32 × ps_S) :=
  some ((1 : Int32), σ)
set_option maxHeartbeats 4000000 in
set_option maxRecDepth 100000 in
theorem tX2_readThings_J65 {z : ps_X} (C : ps_C z cX2_readThings 2 "PartSums$Reader") (Z : ps_Z z 3 121) {σ : ps_S}  {r : Int32 × ps_S} (h : fX2_readThings_J65 σ = some r) (k : ps_KZ z 2 cX2_readThings r.1 r.2) : ps_at z 2 65 [] [] σ := by
  unfold fX2_readThings_J65 at h
  refine ps_iconst C (pc := 65) (v := 1) dX2_readThings_65 (by decide) ?_
  refine ps_goto C (pc := 66) 70 dX2_readThings_66 (by decide) ?_
  obtain rfl := Option.some.inj h
  exact k _ _ (Or.inr rfl) dX2_readThings_70
def fX2_readThings (σ : ps_S) : Option (Int32 × ps_S) :=
  ((fX2_nextToken σ).bind fun q1 =>
  (if (q1.1 36 7) = (2 : Int32) then ((fX2_numberRead q1).bind fun q2 =>
  (if q2 < (1 : Int32) then fX2_readThings_J34 q1
  else (if q2 ≤ (8 : Int32) then (ps_let (ps_ui q1 36 4 q2) fun σ5 =>
  ((fX2_nextToken σ5).bind fun q6 =>
  (if (q6.1 36 7) = (3 : Int32) then fX2_readThings_J65 q6
  else ((fX2_blame (1 : Int32) q6).bind fun q7 =>
  (if q7.1 = 0 then some ((0 : Int32), q7.2)
  else fX2_readThings_J65 q7.2)))))
  else fX2_readThings_J34 q1)))
  else ((fX2_blame (1 : Int32) q1).bind fun q8 =>
  (ps_cb q8.1 (some (q8.1, q8.2))))))
set_option maxHeartbeats 4000000 in
set_option maxRecDepth 100000 in
theorem tX2_readThings {z : ps_X} (C : ps_C z cX2_readThings 2 "PartSums$Reader") (Z : ps_Z z 3 121) {σ : ps_S}  {r : Int32 × ps_S} (h : fX2_readThings σ = some r) (k : ps_KZ z 2 cX2_readThings r.1 r.2) : ps_at z 2 0 [(0, .ref (z_ad z 36))] [] σ := by
  unfold fX2_readThings at h
  refine ps_aload_n C (pc := 0) dX2_readThings_0 0 rfl ?_
  obtain ⟨q1, hq1, h⟩ := ps_bd h
  refine ps_callVV C Z (pc := 1) (As := []) (k0 := 36) (mX2_nextToken  hq1) (Cn := "PartSums$Reader") rfl tw_262 tw_264 tw_1 tw_68 tw_265 hdX2_nextToken rfl rfl ⟨by decide, by decide⟩ (by decide) ps_o36 rfl rfl (Nat.le_of_ble_eq_true rfl) dX2_readThings_1 rfl ?_
  refine ps_aload_n C (pc := 4) dX2_readThings_4 0 rfl ?_
  refine pg_36_7 C (pc := 5) tw_167 dX2_readThings_5 ?_
  refine ps_iconst C (pc := 8) (v := 2) dX2_readThings_8 (by decide) ?_
  refine ps_icmp_eq C (pc := 9) 18 dX2_readThings_9 (by decide) (fun hc => ?_) (fun hc => ?_)
  · have h := ps_ift hc h
    refine ps_aload_n C (pc := 18) dX2_readThings_18 0 rfl ?_
    obtain ⟨q2, hq2, h⟩ := ps_bd h
    refine ps_callVI C Z (pc := 19) (As := []) (k0 := 36) (mX2_numberRead  hq2) (Cn := "PartSums$Reader") rfl tw_340 tw_342 tw_6 tw_68 tw_343 hdX2_numberRead rfl rfl ⟨by decide, by decide⟩ (by decide) ps_o36 rfl rfl (Nat.le_of_ble_eq_true rfl) dX2_readThings_19 rfl ?_
    refine ps_istore_n C (pc := 22) (lv' := [(1, .int q2), (0, .ref (z_ad z 36))]) dX2_readThings_22 (by decide) rfl ?_
    refine ps_iload_n C (pc := 23) dX2_readThings_23 0 rfl ?_
    refine ps_iconst C (pc := 24) (v := 1) dX2_readThings_24 (by decide) ?_
    refine ps_icmp_lt C (pc := 25) 34 dX2_readThings_25 (by decide) (fun hc => ?_) (fun hc => ?_)
    · have h := ps_ift hc h
      exact ps_sub [1] rfl (tX2_readThings_J34 C Z  h k)
    · have h := ps_iff hc h
      refine ps_iload_n C (pc := 28) dX2_readThings_28 0 rfl ?_
      refine ps_bipush C (pc := 29) (v := 8) dX2_readThings_29 (by decide) ?_
      refine ps_icmp_le C (pc := 31) 40 dX2_readThings_31 (by decide) (fun hc => ?_) (fun hc => ?_)
      · have h := ps_ift hc h
        refine ps_aload_n C (pc := 40) dX2_readThings_40 1 rfl ?_
        refine ps_iload_n C (pc := 41) dX2_readThings_41 0 rfl ?_
        refine pp_36_4 C (pc := 42) tw_161 dX2_readThings_42 h (fun σ5 h => ?_)
        refine ps_aload_n C (pc := 45) dX2_readThings_45 1 rfl ?_
        obtain ⟨q6, hq6, h⟩ := ps_bd h
        refine ps_callVV C Z (pc := 46) (As := []) (k0 := 36) (mX2_nextToken  hq6) (Cn := "PartSums$Reader") rfl tw_262 tw_264 tw_1 tw_68 tw_265 hdX2_nextToken rfl rfl ⟨by decide, by decide⟩ (by decide) ps_o36 rfl rfl (Nat.le_of_ble_eq_true rfl) dX2_readThings_46 rfl ?_
        refine ps_aload_n C (pc := 49) dX2_readThings_49 1 rfl ?_
        refine pg_36_7 C (pc := 50) tw_167 dX2_readThings_50 ?_
        refine ps_iconst C (pc := 53) (v := 3) dX2_readThings_53 (by decide) ?_
        refine ps_icmp_eq C (pc := 54) 65 dX2_readThings_54 (by decide) (fun hc => ?_) (fun hc => ?_)
        · have h := ps_ift hc h
          exact ps_sub [] rfl (tX2_readThings_J65 C Z  h k)
        · have h := ps_iff hc h
          refine ps_aload_n C (pc := 57) dX2_readThings_57 1 rfl ?_
          refine ps_iconst C (pc := 58) (v := 1) dX2_readThings_58 (by decide) ?_
          obtain ⟨q7, hq7, h⟩ := ps_bd h
          refine ps_callVI C Z (pc := 59) (As := [.int (1 : Int32)]) (k0 := 36) (mX2_blame  hq7) (Cn := "PartSums$Reader") rfl tw_336 tw_338 tw_5 tw_68 tw_339 hdX2_blame rfl rfl ⟨by decide, by decide⟩ (by decide) ps_o36 rfl rfl (Nat.le_of_ble_eq_true rfl) dX2_readThings_59 rfl ?_
          refine ps_if_eq C (pc := 62) 69 dX2_readThings_62 (by decide) (fun hc => ?_) (fun hc => ?_)
          · have h := ps_ift hc h
            refine ps_iconst C (pc := 69) (v := 0) dX2_readThings_69 (by decide) ?_
            obtain rfl := Option.some.inj h
            exact k _ _ (Or.inl rfl) dX2_readThings_70
          · have h := ps_iff hc h
            exact ps_sub [] rfl (tX2_readThings_J65 C Z  h k)
      · have h := ps_iff hc h
        exact ps_sub [1] rfl (tX2_readThings_J34 C Z  h k)
  · have h := ps_iff hc h
    refine ps_aload_n C (pc := 12) dX2_readThings_12 0 rfl ?_
    refine ps_iconst C (pc := 13) (v := 1) dX2_readThings_13 (by decide) ?_
    obtain ⟨q8, hq8, h⟩ := ps_bd h
    refine ps_callVI C Z (pc := 14) (As := [.int (1 : Int32)]) (k0 := 36) (mX2_blame  hq8) (Cn := "PartSums$Reader") rfl tw_336 tw_338 tw_5 tw_68 tw_339 hdX2_blame rfl rfl ⟨by decide, by decide⟩ (by decide) ps_o36 rfl rfl (Nat.le_of_ble_eq_true rfl) dX2_readThings_14 rfl ?_
    obtain ⟨hb9, h⟩ := ps_cb_s h
    obtain rfl := Option.some.inj h
    exact k _ _ hb9 dX2_readThings_17
def rmX2_readThings : Room := { frames := 3, cells := 0, slots := 0, locals := 121 }
theorem mX2_readThings {l : Launch} {E : ps_E} {σ : ps_S}  {r : Int32 × ps_S}  (h : fX2_readThings σ = some r) : ps_MI l yX2_readThings (ps_wm yX2_readThings cX2_readThings 2 (some .boolean)) rmX2_readThings [.ref (e_ad E 36)] E σ r.1 r.2 :=
  ps_metZ yX2_readThings rmX2_readThings 2 (own := "PartSums$Reader") r.1 (by decide +kernel) rfl (Nat.le_of_ble_eq_true rfl) rfl (fun z e1 e2 e3 e4 e5 C k => by
    subst e5
    exact tX2_readThings C (ps_Zof e1 e3 e4)  h k)
theorem hdX2_readThings : yX2_readThings.cls ≠ "java/lang/invoke/MethodHandle" ∧ yX2_readThings.cls ≠ "java/lang/invoke/VarHandle" ∧ (parseMethodDescriptor yX2_readThings.desc).map (fun d => d.parameters.length) = some 0 := by decide +kernel
def fX2_readSet_J114 (σ : ps_S) : Option (Int32 × ps_S) :=
  some ((1 : Int32), σ)
set_option maxHeartbeats 4000000 in
set_option maxRecDepth 100000 in
theorem tX2_readSet_J114 {z : ps_X} (C : ps_C z cX2_readSet 2 "PartSums$Reader") (Z : ps_Z z 3 121) {σ : ps_S}  {r : Int32 × ps_S} (h : fX2_readSet_J114 σ = some r) (k : ps_KZ z 2 cX2_readSet r.1 r.2) : ps_at z 2 114 [] [] σ := by
  unfold fX2_readSet_J114 at h
  refine ps_iconst C (pc := 114) (v := 1) dX2_readSet_114 (by decide) ?_
  refine ps_goto C (pc := 115) 119 dX2_readSet_115 (by decide) ?_
  obtain rfl := Option.some.inj h
  exact k _ _ (Or.inr rfl) dX2_readSet_119
def fX2_readSet_J98 (σ : ps_S) : Option (Int32 × ps_S) :=
  (if (σ.1 36 7) = (3 : Int32) then fX2_readSet_J114 σ
  else ((fX2_blame (1 : Int32) σ).bind fun q7 =>
  (if q7.1 = 0 then some ((0 : Int32), q7.2)
  else fX2_readSet_J114 q7.2)))
set_option maxHeartbeats 4000000 in
set_option maxRecDepth 100000 in
theorem tX2_readSet_J98 {z : ps_X} (C : ps_C z cX2_readSet 2 "PartSums$Reader") (Z : ps_Z z 3 121) {σ : ps_S}  {r : Int32 × ps_S} (h : fX2_readSet_J98 σ = some r) (k : ps_KZ z 2 cX2_readSet r.1 r.2) : ps_at z 2 98 [(0, .ref (z_ad z 36))] [] σ := by
  unfold fX2_readSet_J98 at h
  refine ps_aload_n C (pc := 98) dX2_readSet_98 0 rfl ?_
  refine pg_36_7 C (pc := 99) tw_167 dX2_readSet_99 ?_
  refine ps_iconst C (pc := 102) (v := 3) dX2_readSet_102 (by decide) ?_
  refine ps_icmp_eq C (pc := 103) 114 dX2_readSet_103 (by decide) (fun hc => ?_) (fun hc => ?_)
  · have h := ps_ift hc h
    exact ps_sub [] rfl (tX2_readSet_J114 C Z  h k)
  · have h := ps_iff hc h
    refine ps_aload_n C (pc := 106) dX2_readSet_106 0 rfl ?_
    refine ps_iconst C (pc := 107) (v := 1) dX2_readSet_107 (by decide) ?_
    obtain ⟨q7, hq7, h⟩ := ps_bd h
    refine ps_callVI C Z (pc := 108) (As := [.int (1 : Int32)]) (k0 := 36) (mX2_blame  hq7) (Cn := "PartSums$Reader") rfl tw_336 tw_338 tw_5 tw_68 tw_339 hdX2_blame rfl rfl ⟨by decide, by decide⟩ (by decide) ps_o36 rfl rfl (Nat.le_of_ble_eq_true rfl) dX2_readSet_108 rfl ?_
    refine ps_if_eq C (pc := 111) 118 dX2_readSet_111 (by decide) (fun hc => ?_) (fun hc => ?_)
    · have h := ps_ift hc h
      refine ps_iconst C (pc := 118) (v := 0) dX2_readSet_118 (by decide) ?_
      obtain rfl := Option.some.inj h
      exact k _ _ (Or.inl rfl) dX2_readSet_119
    · have h := ps_iff hc h
      exact ps_sub [] rfl (tX2_readSet_J114 C Z  h k)
def fX2_readSet (σ : ps_S) : Option (Int32 × ps_S) :=
  ((fX2_nextToken σ).bind fun q1 =>
  (if (q1.1 36 7) = (1 : Int32) then ((fX2_lettersRead q1).bind fun q2 =>
  (if q2 = (-1 : Int32) then ((fX2_blame (3 : Int32) q1).bind fun q17 =>
  (ps_cb q17.1 (some (q17.1, q17.2))))
  else (ps_ck q2 256 ((if (q1.1 38 (Int32.toNatClampNeg q2)) = 0 then (ps_ck q2 256 ((ps_let (ps_ui q1 38 (Int32.toNatClampNeg q2) (1 : Int32)) fun σ5 =>
  ((fX2_nextToken σ5).bind fun q6 =>
  (if (q6.1 36 7) = (2 : Int32) then ((fX2_numberRead q6).bind fun q8 =>
  (ps_ck q2 256 ((ps_let (ps_ui q6 38 (Int32.toNatClampNeg q2) q8) fun σ10 =>
  (ps_ck q2 256 ((if (1 : Int32) ≤ (σ10.1 38 (Int32.toNatClampNeg q2)) then ((fX2_nextToken σ10).bind fun q12 =>
  fX2_readSet_J98 q12)
  else ((fX2_blame (2 : Int32) σ10).bind fun q13 =>
  (ps_cb q13.1 (some (q13.1, q13.2)))))))))))
  else fX2_readSet_J98 q6)))))
  else ((fX2_blame (4 : Int32) q1).bind fun q15 =>
  (ps_cb q15.1 (some (q15.1, q15.2)))))))))
  else ((fX2_blame (1 : Int32) q1).bind fun q19 =>
  (ps_cb q19.1 (some (q19.1, q19.2))))))
set_option maxHeartbeats 4000000 in
set_option maxRecDepth 100000 in
theorem tX2_readSet {z : ps_X} (C : ps_C z cX2_readSet 2 "PartSums$Reader") (Z : ps_Z z 3 121) {σ : ps_S}  {r : Int32 × ps_S} (h : fX2_readSet σ = some r) (k : ps_KZ z 2 cX2_readSet r.1 r.2) : ps_at z 2 0 [(0, .ref (z_ad z 36))] [] σ := by
  unfold fX2_readSet at h
  refine ps_aload_n C (pc := 0) dX2_readSet_0 0 rfl ?_
  obtain ⟨q1, hq1, h⟩ := ps_bd h
  refine ps_callVV C Z (pc := 1) (As := []) (k0 := 36) (mX2_nextToken  hq1) (Cn := "PartSums$Reader") rfl tw_262 tw_264 tw_1 tw_68 tw_265 hdX2_nextToken rfl rfl ⟨by decide, by decide⟩ (by decide) ps_o36 rfl rfl (Nat.le_of_ble_eq_true rfl) dX2_readSet_1 rfl ?_
  refine ps_aload_n C (pc := 4) dX2_readSet_4 0 rfl ?_
  refine pg_36_7 C (pc := 5) tw_167 dX2_readSet_5 ?_
  refine ps_iconst C (pc := 8) (v := 1) dX2_readSet_8 (by decide) ?_
  refine ps_icmp_eq C (pc := 9) 18 dX2_readSet_9 (by decide) (fun hc => ?_) (fun hc => ?_)
  · have h := ps_ift hc h
    refine ps_aload_n C (pc := 18) dX2_readSet_18 0 rfl ?_
    obtain ⟨q2, hq2, h⟩ := ps_bd h
    refine ps_callVI C Z (pc := 19) (As := []) (k0 := 36) (mX2_lettersRead  hq2) (Cn := "PartSums$Reader") rfl tw_349 tw_351 tw_8 tw_68 tw_352 hdX2_lettersRead rfl rfl ⟨by decide, by decide⟩ (by decide) ps_o36 rfl rfl (Nat.le_of_ble_eq_true rfl) dX2_readSet_19 rfl ?_
    refine ps_istore_n C (pc := 22) (lv' := [(1, .int q2), (0, .ref (z_ad z 36))]) dX2_readSet_22 (by decide) rfl ?_
    refine ps_iload_n C (pc := 23) dX2_readSet_23 0 rfl ?_
    refine ps_iconst C (pc := 24) (v := -1) dX2_readSet_24 (by decide) ?_
    refine ps_icmp_ne C (pc := 25) 34 dX2_readSet_25 (by decide) (fun hc => ?_) (fun hc => ?_)
    · have h := ps_iff hc h
      refine ps_aload_n C (pc := 34) dX2_readSet_34 1 rfl ?_
      refine pg_36_6 C (pc := 35) tw_165 dX2_readSet_35 ?_
      refine ps_iload_n C (pc := 38) dX2_readSet_38 0 rfl ?_
      obtain ⟨hi3, h⟩ := ps_ck_s h
      refine ps_iald C (pc := 39) 38 rfl rfl hi3 dX2_readSet_39 ?_
      refine ps_if_eq C (pc := 40) 49 dX2_readSet_40 (by decide) (fun hc => ?_) (fun hc => ?_)
      · have h := ps_ift hc h
        refine ps_aload_n C (pc := 49) dX2_readSet_49 1 rfl ?_
        refine pg_36_6 C (pc := 50) tw_165 dX2_readSet_50 ?_
        refine ps_iload_n C (pc := 53) dX2_readSet_53 0 rfl ?_
        refine ps_iconst C (pc := 54) (v := 1) dX2_readSet_54 (by decide) ?_
        obtain ⟨hi4, h⟩ := ps_ck_s h
        refine ps_iastL C (pc := 55) 38 rfl rfl hi4 dX2_readSet_55 h (fun σ5 h => ?_)
        refine ps_aload_n C (pc := 56) dX2_readSet_56 1 rfl ?_
        obtain ⟨q6, hq6, h⟩ := ps_bd h
        refine ps_callVV C Z (pc := 57) (As := []) (k0 := 36) (mX2_nextToken  hq6) (Cn := "PartSums$Reader") rfl tw_262 tw_264 tw_1 tw_68 tw_265 hdX2_nextToken rfl rfl ⟨by decide, by decide⟩ (by decide) ps_o36 rfl rfl (Nat.le_of_ble_eq_true rfl) dX2_readSet_57 rfl ?_
        refine ps_aload_n C (pc := 60) dX2_readSet_60 1 rfl ?_
        refine pg_36_7 C (pc := 61) tw_167 dX2_readSet_61 ?_
        refine ps_iconst C (pc := 64) (v := 2) dX2_readSet_64 (by decide) ?_
        refine ps_icmp_ne C (pc := 65) 98 dX2_readSet_65 (by decide) (fun hc => ?_) (fun hc => ?_)
        · have h := ps_iff hc h
          exact ps_sub [1] rfl (tX2_readSet_J98 C Z  h k)
        · have h := ps_ift hc h
          refine ps_aload_n C (pc := 68) dX2_readSet_68 1 rfl ?_
          refine pg_36_6 C (pc := 69) tw_165 dX2_readSet_69 ?_
          refine ps_iload_n C (pc := 72) dX2_readSet_72 0 rfl ?_
          refine ps_aload_n C (pc := 73) dX2_readSet_73 1 rfl ?_
          obtain ⟨q8, hq8, h⟩ := ps_bd h
          refine ps_callVI C Z (pc := 74) (As := []) (k0 := 36) (mX2_numberRead  hq8) (Cn := "PartSums$Reader") rfl tw_340 tw_342 tw_6 tw_68 tw_343 hdX2_numberRead rfl rfl ⟨by decide, by decide⟩ (by decide) ps_o36 rfl rfl (Nat.le_of_ble_eq_true rfl) dX2_readSet_74 rfl ?_
          obtain ⟨hi9, h⟩ := ps_ck_s h
          refine ps_iastL C (pc := 77) 38 rfl rfl hi9 dX2_readSet_77 h (fun σ10 h => ?_)
          refine ps_aload_n C (pc := 78) dX2_readSet_78 1 rfl ?_
          refine pg_36_6 C (pc := 79) tw_165 dX2_readSet_79 ?_
          refine ps_iload_n C (pc := 82) dX2_readSet_82 0 rfl ?_
          obtain ⟨hi11, h⟩ := ps_ck_s h
          refine ps_iald C (pc := 83) 38 rfl rfl hi11 dX2_readSet_83 ?_
          refine ps_iconst C (pc := 84) (v := 1) dX2_readSet_84 (by decide) ?_
          refine ps_icmp_ge C (pc := 85) 94 dX2_readSet_85 (by decide) (fun hc => ?_) (fun hc => ?_)
          · have h := ps_ift hc h
            refine ps_aload_n C (pc := 94) dX2_readSet_94 1 rfl ?_
            obtain ⟨q12, hq12, h⟩ := ps_bd h
            refine ps_callVV C Z (pc := 95) (As := []) (k0 := 36) (mX2_nextToken  hq12) (Cn := "PartSums$Reader") rfl tw_262 tw_264 tw_1 tw_68 tw_265 hdX2_nextToken rfl rfl ⟨by decide, by decide⟩ (by decide) ps_o36 rfl rfl (Nat.le_of_ble_eq_true rfl) dX2_readSet_95 rfl ?_
            exact ps_sub [1] rfl (tX2_readSet_J98 C Z  h k)
          · have h := ps_iff hc h
            refine ps_aload_n C (pc := 88) dX2_readSet_88 1 rfl ?_
            refine ps_iconst C (pc := 89) (v := 2) dX2_readSet_89 (by decide) ?_
            obtain ⟨q13, hq13, h⟩ := ps_bd h
            refine ps_callVI C Z (pc := 90) (As := [.int (2 : Int32)]) (k0 := 36) (mX2_blame  hq13) (Cn := "PartSums$Reader") rfl tw_336 tw_338 tw_5 tw_68 tw_339 hdX2_blame rfl rfl ⟨by decide, by decide⟩ (by decide) ps_o36 rfl rfl (Nat.le_of_ble_eq_true rfl) dX2_readSet_90 rfl ?_
            obtain ⟨hb14, h⟩ := ps_cb_s h
            obtain rfl := Option.some.inj h
            exact k _ _ hb14 dX2_readSet_93
      · have h := ps_iff hc h
        refine ps_aload_n C (pc := 43) dX2_readSet_43 1 rfl ?_
        refine ps_iconst C (pc := 44) (v := 4) dX2_readSet_44 (by decide) ?_
        obtain ⟨q15, hq15, h⟩ := ps_bd h
        refine ps_callVI C Z (pc := 45) (As := [.int (4 : Int32)]) (k0 := 36) (mX2_blame  hq15) (Cn := "PartSums$Reader") rfl tw_336 tw_338 tw_5 tw_68 tw_339 hdX2_blame rfl rfl ⟨by decide, by decide⟩ (by decide) ps_o36 rfl rfl (Nat.le_of_ble_eq_true rfl) dX2_readSet_45 rfl ?_
        obtain ⟨hb16, h⟩ := ps_cb_s h
        obtain rfl := Option.some.inj h
        exact k _ _ hb16 dX2_readSet_48
    · have h := ps_ift hc h
      refine ps_aload_n C (pc := 28) dX2_readSet_28 1 rfl ?_
      refine ps_iconst C (pc := 29) (v := 3) dX2_readSet_29 (by decide) ?_
      obtain ⟨q17, hq17, h⟩ := ps_bd h
      refine ps_callVI C Z (pc := 30) (As := [.int (3 : Int32)]) (k0 := 36) (mX2_blame  hq17) (Cn := "PartSums$Reader") rfl tw_336 tw_338 tw_5 tw_68 tw_339 hdX2_blame rfl rfl ⟨by decide, by decide⟩ (by decide) ps_o36 rfl rfl (Nat.le_of_ble_eq_true rfl) dX2_readSet_30 rfl ?_
      obtain ⟨hb18, h⟩ := ps_cb_s h
      obtain rfl := Option.some.inj h
      exact k _ _ hb18 dX2_readSet_33
  · have h := ps_iff hc h
    refine ps_aload_n C (pc := 12) dX2_readSet_12 0 rfl ?_
    refine ps_iconst C (pc := 13) (v := 1) dX2_readSet_13 (by decide) ?_
    obtain ⟨q19, hq19, h⟩ := ps_bd h
    refine ps_callVI C Z (pc := 14) (As := [.int (1 : Int32)]) (k0 := 36) (mX2_blame  hq19) (Cn := "PartSums$Reader") rfl tw_336 tw_338 tw_5 tw_68 tw_339 hdX2_blame rfl rfl ⟨by decide, by decide⟩ (by decide) ps_o36 rfl rfl (Nat.le_of_ble_eq_true rfl) dX2_readSet_14 rfl ?_
    obtain ⟨hb20, h⟩ := ps_cb_s h
    obtain rfl := Option.some.inj h
    exact k _ _ hb20 dX2_readSet_17
def rmX2_readSet : Room := { frames := 3, cells := 0, slots := 0, locals := 121 }
theorem mX2_readSet {l : Launch} {E : ps_E} {σ : ps_S}  {r : Int32 × ps_S}  (h : fX2_readSet σ = some r) : ps_MI l yX2_readSet (ps_wm yX2_readSet cX2_readSet 2 (some .boolean)) rmX2_readSet [.ref (e_ad E 36)] E σ r.1 r.2 :=
  ps_metZ yX2_readSet rmX2_readSet 2 (own := "PartSums$Reader") r.1 (by decide +kernel) rfl (Nat.le_of_ble_eq_true rfl) rfl (fun z e1 e2 e3 e4 e5 C k => by
    subst e5
    exact tX2_readSet C (ps_Zof e1 e3 e4)  h k)
theorem hdX2_readSet : yX2_readSet.cls ≠ "java/lang/invoke/MethodHandle" ∧ yX2_readSet.cls ≠ "java/lang/invoke/VarHandle" ∧ (parseMethodDescriptor yX2_readSet.desc).map (fun d => d.parameters.length) = some 0 := by decide +kernel
def fX2_readPair_J36 (σ : ps_S) : Option (Int32 × ps_S) :=
  ((fX2_blame (3 : Int32) σ).bind fun q3 =>
  (ps_cb q3.1 (some (q3.1, q3.2))))
set_option maxHeartbeats 4000000 in
set_option maxRecDepth 100000 in
theorem tX2_readPair_J36 {z : ps_X} (C : ps_C z cX2_readPair 6 "PartSums$Reader") (Z : ps_Z z 3 121) {σ : ps_S}  {r : Int32 × ps_S} (h : fX2_readPair_J36 σ = some r) (k : ps_KZ z 6 cX2_readPair r.1 r.2) : ps_at z 6 36 [(0, .ref (z_ad z 36))] [] σ := by
  unfold fX2_readPair_J36 at h
  refine ps_aload_n C (pc := 36) dX2_readPair_36 0 rfl ?_
  refine ps_iconst C (pc := 37) (v := 3) dX2_readPair_37 (by decide) ?_
  obtain ⟨q3, hq3, h⟩ := ps_bd h
  refine ps_callVI C Z (pc := 38) (As := [.int (3 : Int32)]) (k0 := 36) (mX2_blame  hq3) (Cn := "PartSums$Reader") rfl tw_336 tw_338 tw_5 tw_68 tw_339 hdX2_blame rfl rfl ⟨by decide, by decide⟩ (by decide) ps_o36 rfl rfl (Nat.le_of_ble_eq_true rfl) dX2_readPair_38 rfl ?_
  obtain ⟨hb4, h⟩ := ps_cb_s h
  obtain rfl := Option.some.inj h
  exact k _ _ hb4 dX2_readPair_41
def fX2_readPair_J124 (σ : ps_S) : Option (Int32 × ps_S) :=
  some ((1 : Int32), σ)
set_option maxHeartbeats 4000000 in
set_option maxRecDepth 100000 in
theorem tX2_readPair_J124 {z : ps_X} (C : ps_C z cX2_readPair 6 "PartSums$Reader") (Z : ps_Z z 3 121) {σ : ps_S}  {r : Int32 × ps_S} (h : fX2_readPair_J124 σ = some r) (k : ps_KZ z 6 cX2_readPair r.1 r.2) : ps_at z 6 124 [] [] σ := by
  unfold fX2_readPair_J124 at h
  refine ps_iconst C (pc := 124) (v := 1) dX2_readPair_124 (by decide) ?_
  refine ps_goto C (pc := 125) 129 dX2_readPair_125 (by decide) ?_
  obtain rfl := Option.some.inj h
  exact k _ _ (Or.inr rfl) dX2_readPair_129
def fX2_readPair (σ : ps_S) : Option (Int32 × ps_S) :=
  ((fX2_nextToken σ).bind fun q1 =>
  (if (q1.1 36 7) = (1 : Int32) then ((fX2_lettersRead q1).bind fun q2 =>
  (if q2 = (-1 : Int32) then fX2_readPair_J36 q1
  else ((fJ6_bitCount_0f7a4 q2).bind fun q5 =>
  (if q5 = (2 : Int32) then ((fX4_leastThing q2).bind fun q6 =>
  ((fX4_leastThing (q2 &&& (q2 - (1 : Int32)))).bind fun q7 =>
  (ps_let (((1 : Int64) <<< (Int32.toInt64 ((q6 * (8 : Int32)) + q7) &&& 63)) ||| ((1 : Int64) <<< (Int32.toInt64 ((q7 * (8 : Int32)) + q6) &&& 63))) fun x8 =>
  (if (lg_cmp ((q1.2 36 5) &&& x8) (0 : Int64)) = 0 then (ps_let (ps_ul q1 36 5 ((q1.2 36 5) ||| x8)) fun σ9 =>
  ((fX2_nextToken σ9).bind fun q10 =>
  (if (q10.1 36 7) = (3 : Int32) then fX2_readPair_J124 q10
  else ((fX2_blame (1 : Int32) q10).bind fun q11 =>
  (if q11.1 = 0 then some ((0 : Int32), q11.2)
  else fX2_readPair_J124 q11.2)))))
  else ((fX2_blame (4 : Int32) q1).bind fun q12 =>
  (ps_cb q12.1 (some (q12.1, q12.2))))))))
  else fX2_readPair_J36 q1))))
  else ((fX2_blame (1 : Int32) q1).bind fun q14 =>
  (ps_cb q14.1 (some (q14.1, q14.2))))))
set_option maxHeartbeats 4000000 in
set_option maxRecDepth 100000 in
theorem tX2_readPair {z : ps_X} (C : ps_C z cX2_readPair 6 "PartSums$Reader") (Z : ps_Z z 3 121) {σ : ps_S}  {r : Int32 × ps_S} (h : fX2_readPair σ = some r) (k : ps_KZ z 6 cX2_readPair r.1 r.2) : ps_at z 6 0 [(0, .ref (z_ad z 36))] [] σ := by
  unfold fX2_readPair at h
  refine ps_aload_n C (pc := 0) dX2_readPair_0 0 rfl ?_
  obtain ⟨q1, hq1, h⟩ := ps_bd h
  refine ps_callVV C Z (pc := 1) (As := []) (k0 := 36) (mX2_nextToken  hq1) (Cn := "PartSums$Reader") rfl tw_262 tw_264 tw_1 tw_68 tw_265 hdX2_nextToken rfl rfl ⟨by decide, by decide⟩ (by decide) ps_o36 rfl rfl (Nat.le_of_ble_eq_true rfl) dX2_readPair_1 rfl ?_
  refine ps_aload_n C (pc := 4) dX2_readPair_4 0 rfl ?_
  refine pg_36_7 C (pc := 5) tw_167 dX2_readPair_5 ?_
  refine ps_iconst C (pc := 8) (v := 1) dX2_readPair_8 (by decide) ?_
  refine ps_icmp_eq C (pc := 9) 18 dX2_readPair_9 (by decide) (fun hc => ?_) (fun hc => ?_)
  · have h := ps_ift hc h
    refine ps_aload_n C (pc := 18) dX2_readPair_18 0 rfl ?_
    obtain ⟨q2, hq2, h⟩ := ps_bd h
    refine ps_callVI C Z (pc := 19) (As := []) (k0 := 36) (mX2_lettersRead  hq2) (Cn := "PartSums$Reader") rfl tw_349 tw_351 tw_8 tw_68 tw_352 hdX2_lettersRead rfl rfl ⟨by decide, by decide⟩ (by decide) ps_o36 rfl rfl (Nat.le_of_ble_eq_true rfl) dX2_readPair_19 rfl ?_
    refine ps_istore_n C (pc := 22) (lv' := [(1, .int q2), (0, .ref (z_ad z 36))]) dX2_readPair_22 (by decide) rfl ?_
    refine ps_iload_n C (pc := 23) dX2_readPair_23 0 rfl ?_
    refine ps_iconst C (pc := 24) (v := -1) dX2_readPair_24 (by decide) ?_
    refine ps_icmp_eq C (pc := 25) 36 dX2_readPair_25 (by decide) (fun hc => ?_) (fun hc => ?_)
    · have h := ps_ift hc h
      exact ps_sub [1] rfl (tX2_readPair_J36 C Z  h k)
    · have h := ps_iff hc h
      refine ps_iload_n C (pc := 28) dX2_readPair_28 0 rfl ?_
      obtain ⟨q5, hq5, h⟩ := ps_bd h
      refine ps_callSI C Z (pc := 29) (As := [.int q2]) (mJ6_bitCount_0f7a4  hq5) tw_358 tw_359 tw_76 tw_360 hdJ6_bitCount_0f7a4 rfl rfl ⟨by decide, by decide⟩ rfl (Nat.le_of_ble_eq_true rfl) dX2_readPair_29 rfl ?_
      refine ps_iconst C (pc := 32) (v := 2) dX2_readPair_32 (by decide) ?_
      refine ps_icmp_eq C (pc := 33) 42 dX2_readPair_33 (by decide) (fun hc => ?_) (fun hc => ?_)
      · have h := ps_ift hc h
        refine ps_iload_n C (pc := 42) dX2_readPair_42 0 rfl ?_
        obtain ⟨q6, hq6, h⟩ := ps_bd h
        refine ps_callNI C Z (pc := 43) (As := [.int q2]) (mX4_leastThing  hq6) (host := "PartSums") (by simp [ps_nt]) tw_365 tw_65 tw_366 hdX4_leastThing rfl rfl ⟨by decide, by decide⟩ rfl (Nat.le_of_ble_eq_true rfl) dX2_readPair_43 rfl ?_
        refine ps_istore_n C (pc := 46) (lv' := [(2, .int q6), (1, .int q2), (0, .ref (z_ad z 36))]) dX2_readPair_46 (by decide) rfl ?_
        refine ps_iload_n C (pc := 47) dX2_readPair_47 1 rfl ?_
        refine ps_iload_n C (pc := 48) dX2_readPair_48 1 rfl ?_
        refine ps_iconst C (pc := 49) (v := 1) dX2_readPair_49 (by decide) ?_
        refine ps_isub C (pc := 50) dX2_readPair_50 ?_
        refine ps_iand C (pc := 51) dX2_readPair_51 ?_
        obtain ⟨q7, hq7, h⟩ := ps_bd h
        refine ps_callNI C Z (pc := 52) (As := [.int (q2 &&& (q2 - (1 : Int32)))]) (mX4_leastThing  hq7) (host := "PartSums") (by simp [ps_nt]) tw_365 tw_65 tw_366 hdX4_leastThing rfl rfl ⟨by decide, by decide⟩ rfl (Nat.le_of_ble_eq_true rfl) dX2_readPair_52 rfl ?_
        refine ps_istore_n C (pc := 55) (lv' := [(3, .int q7), (2, .int q6), (1, .int q2), (0, .ref (z_ad z 36))]) dX2_readPair_55 (by decide) rfl ?_
        refine ps_lconst C (pc := 56) (v := 1) dX2_readPair_56 (by decide) ?_
        refine ps_iload_n C (pc := 57) dX2_readPair_57 1 rfl ?_
        refine ps_bipush C (pc := 58) (v := 8) dX2_readPair_58 (by decide) ?_
        refine ps_imul C (pc := 60) dX2_readPair_60 ?_
        refine ps_iload_n C (pc := 61) dX2_readPair_61 0 rfl ?_
        refine ps_iadd C (pc := 62) dX2_readPair_62 ?_
        refine ps_lshl C (pc := 63) dX2_readPair_63 ?_
        refine ps_lconst C (pc := 64) (v := 1) dX2_readPair_64 (by decide) ?_
        refine ps_iload_n C (pc := 65) dX2_readPair_65 0 rfl ?_
        refine ps_bipush C (pc := 66) (v := 8) dX2_readPair_66 (by decide) ?_
        refine ps_imul C (pc := 68) dX2_readPair_68 ?_
        refine ps_iload_n C (pc := 69) dX2_readPair_69 1 rfl ?_
        refine ps_iadd C (pc := 70) dX2_readPair_70 ?_
        refine ps_lshl C (pc := 71) dX2_readPair_71 ?_
        refine ps_lor C (pc := 72) dX2_readPair_72 ?_
        refine ps_lstoreL C (pc := 73) (lw := fun x8 => [(4, .long x8), (3, .int q7), (2, .int q6), (1, .int q2), (0, .ref (z_ad z 36))]) dX2_readPair_73 (by decide) (fun _ => rfl) h (fun x8 h => ?_)
        refine ps_aload_n C (pc := 75) dX2_readPair_75 4 rfl ?_
        refine pg_36_5 C (pc := 76) tw_163 dX2_readPair_76 ?_
        refine ps_lload C (pc := 79) dX2_readPair_79 0 rfl ?_
        refine ps_land C (pc := 81) dX2_readPair_81 ?_
        refine ps_lconst C (pc := 82) (v := 0) dX2_readPair_82 (by decide) ?_
        refine ps_lcmp C (pc := 83) dX2_readPair_83 ?_
        refine ps_if_eq C (pc := 84) 93 dX2_readPair_84 (by decide) (fun hc => ?_) (fun hc => ?_)
        · have h := ps_ift hc h
          refine ps_aload_n C (pc := 93) dX2_readPair_93 4 rfl ?_
          refine ps_dup C (pc := 94) dX2_readPair_94 rfl ?_
          refine pg_36_5 C (pc := 95) tw_163 dX2_readPair_95 ?_
          refine ps_lload C (pc := 98) dX2_readPair_98 0 rfl ?_
          refine ps_lor C (pc := 100) dX2_readPair_100 ?_
          refine pp_36_5 C (pc := 101) tw_163 dX2_readPair_101 h (fun σ9 h => ?_)
          refine ps_aload_n C (pc := 104) dX2_readPair_104 4 rfl ?_
          obtain ⟨q10, hq10, h⟩ := ps_bd h
          refine ps_callVV C Z (pc := 105) (As := []) (k0 := 36) (mX2_nextToken  hq10) (Cn := "PartSums$Reader") rfl tw_262 tw_264 tw_1 tw_68 tw_265 hdX2_nextToken rfl rfl ⟨by decide, by decide⟩ (by decide) ps_o36 rfl rfl (Nat.le_of_ble_eq_true rfl) dX2_readPair_105 rfl ?_
          refine ps_aload_n C (pc := 108) dX2_readPair_108 4 rfl ?_
          refine pg_36_7 C (pc := 109) tw_167 dX2_readPair_109 ?_
          refine ps_iconst C (pc := 112) (v := 3) dX2_readPair_112 (by decide) ?_
          refine ps_icmp_eq C (pc := 113) 124 dX2_readPair_113 (by decide) (fun hc => ?_) (fun hc => ?_)
          · have h := ps_ift hc h
            exact ps_sub [] rfl (tX2_readPair_J124 C Z  h k)
          · have h := ps_iff hc h
            refine ps_aload_n C (pc := 116) dX2_readPair_116 4 rfl ?_
            refine ps_iconst C (pc := 117) (v := 1) dX2_readPair_117 (by decide) ?_
            obtain ⟨q11, hq11, h⟩ := ps_bd h
            refine ps_callVI C Z (pc := 118) (As := [.int (1 : Int32)]) (k0 := 36) (mX2_blame  hq11) (Cn := "PartSums$Reader") rfl tw_336 tw_338 tw_5 tw_68 tw_339 hdX2_blame rfl rfl ⟨by decide, by decide⟩ (by decide) ps_o36 rfl rfl (Nat.le_of_ble_eq_true rfl) dX2_readPair_118 rfl ?_
            refine ps_if_eq C (pc := 121) 128 dX2_readPair_121 (by decide) (fun hc => ?_) (fun hc => ?_)
            · have h := ps_ift hc h
              refine ps_iconst C (pc := 128) (v := 0) dX2_readPair_128 (by decide) ?_
              obtain rfl := Option.some.inj h
              exact k _ _ (Or.inl rfl) dX2_readPair_129
            · have h := ps_iff hc h
              exact ps_sub [] rfl (tX2_readPair_J124 C Z  h k)
        · have h := ps_iff hc h
          refine ps_aload_n C (pc := 87) dX2_readPair_87 4 rfl ?_
          refine ps_iconst C (pc := 88) (v := 4) dX2_readPair_88 (by decide) ?_
          obtain ⟨q12, hq12, h⟩ := ps_bd h
          refine ps_callVI C Z (pc := 89) (As := [.int (4 : Int32)]) (k0 := 36) (mX2_blame  hq12) (Cn := "PartSums$Reader") rfl tw_336 tw_338 tw_5 tw_68 tw_339 hdX2_blame rfl rfl ⟨by decide, by decide⟩ (by decide) ps_o36 rfl rfl (Nat.le_of_ble_eq_true rfl) dX2_readPair_89 rfl ?_
          obtain ⟨hb13, h⟩ := ps_cb_s h
          obtain rfl := Option.some.inj h
          exact k _ _ hb13 dX2_readPair_92
      · have h := ps_iff hc h
        exact ps_sub [1] rfl (tX2_readPair_J36 C Z  h k)
  · have h := ps_iff hc h
    refine ps_aload_n C (pc := 12) dX2_readPair_12 0 rfl ?_
    refine ps_iconst C (pc := 13) (v := 1) dX2_readPair_13 (by decide) ?_
    obtain ⟨q14, hq14, h⟩ := ps_bd h
    refine ps_callVI C Z (pc := 14) (As := [.int (1 : Int32)]) (k0 := 36) (mX2_blame  hq14) (Cn := "PartSums$Reader") rfl tw_336 tw_338 tw_5 tw_68 tw_339 hdX2_blame rfl rfl ⟨by decide, by decide⟩ (by decide) ps_o36 rfl rfl (Nat.le_of_ble_eq_true rfl) dX2_readPair_14 rfl ?_
    obtain ⟨hb15, h⟩ := ps_cb_s h
    obtain rfl := Option.some.inj h
    exact k _ _ hb15 dX2_readPair_17
def rmX2_readPair : Room := { frames := 3, cells := 0, slots := 0, locals := 121 }
theorem mX2_readPair {l : Launch} {E : ps_E} {σ : ps_S}  {r : Int32 × ps_S}  (h : fX2_readPair σ = some r) : ps_MI l yX2_readPair (ps_wm yX2_readPair cX2_readPair 6 (some .boolean)) rmX2_readPair [.ref (e_ad E 36)] E σ r.1 r.2 :=
  ps_metZ yX2_readPair rmX2_readPair 6 (own := "PartSums$Reader") r.1 (by decide +kernel) rfl (Nat.le_of_ble_eq_true rfl) rfl (fun z e1 e2 e3 e4 e5 C k => by
    subst e5
    exact tX2_readPair C (ps_Zof e1 e3 e4)  h k)
theorem hdX2_readPair : yX2_readPair.cls ≠ "java/lang/invoke/MethodHandle" ∧ yX2_readPair.cls ≠ "java/lang/invoke/VarHandle" ∧ (parseMethodDescriptor yX2_readPair.desc).map (fun d => d.parameters.length) = some 0 := by decide +kernel
def pX2_isWord_36_T0_S28 (z : ps_X)  (σ : ps_S) (s : Int32) : Prop := ps_at z 3 28 [(0, .ref (z_ad z 36)), (1, .ref (e_K (z_E z) 0)), (2, .int s)] [] σ
def qX2_isWord_36_T0_S28 (z : ps_X)  (σ : ps_S) (x : (Unit) ⊕ (Unit)) : Prop := match x with | .inl y => ps_at z 3 55 [] [] σ | .inr y => ps_at z 3 63 [] [] σ
def fX2_isWord_36_T0_S28  (σ : ps_S) (a2 : Int32) : Option ((Int32) ⊕ ((Unit) ⊕ (Unit))) :=
  (if (6 : Int32) ≤ a2 then some (.inr (.inr ()))
  else (ps_ck ((σ.1 36 8) + a2) 540 ((ps_ck a2 6 ((if (σ.1 37 (Int32.toNatClampNeg ((σ.1 36 8) + a2))) = (ps_ch 0 a2) then (ps_let (a2 + (1 : Int32)) fun x3 =>
  some (.inl x3))
  else some (.inr (.inl ()))))))))
set_option maxHeartbeats 4000000 in
set_option maxRecDepth 100000 in
theorem tX2_isWord_36_T0_S28 {z : ps_X} (C : ps_C z cX2_isWord 3 "PartSums$Reader") (Z : ps_Z z 6 300)  (σ : ps_S)  (s : Int32) (r : (Int32) ⊕ ((Unit) ⊕ (Unit))) (h : fX2_isWord_36_T0_S28  σ s = some r) (k : ps_k (pX2_isWord_36_T0_S28 z σ) (qX2_isWord_36_T0_S28 z σ) r) : pX2_isWord_36_T0_S28 z σ s := by
  generalize s = a2 at h ⊢
  unfold fX2_isWord_36_T0_S28 at h
  unfold pX2_isWord_36_T0_S28
  refine ps_iload_n C (pc := 28) dX2_isWord_28 2 rfl ?_
  refine ps_aload_n C (pc := 29) dX2_isWord_29 1 rfl ?_
  refine ps_callTI C Z (pc := 30) (As := []) 0 (by decide) (mT_length 0 (by decide)) rfl tw_284 tw_285 tw_286 tw_72 tw_287 hdJ0_length_8abf5 rfl rfl ⟨by decide, by decide⟩ rfl (Nat.le_of_ble_eq_true rfl) dX2_isWord_30 rfl ?_
  refine ps_num (y := 6) (by decide) ?_
  refine ps_icmp_ge C (pc := 33) 63 dX2_isWord_33 (by decide) (fun hc => ?_) (fun hc => ?_)
  · have h := ps_ift hc h
    obtain rfl := Option.some.inj h
    exact ps_sub [] rfl k
  · have h := ps_iff hc h
    refine ps_aload_n C (pc := 36) dX2_isWord_36 0 rfl ?_
    refine pg_36_0 C (pc := 37) tw_154 dX2_isWord_37 ?_
    refine ps_aload_n C (pc := 40) dX2_isWord_40 0 rfl ?_
    refine pg_36_8 C (pc := 41) tw_168 dX2_isWord_41 ?_
    refine ps_iload_n C (pc := 44) dX2_isWord_44 2 rfl ?_
    refine ps_iadd C (pc := 45) dX2_isWord_45 ?_
    obtain ⟨hi1, h⟩ := ps_ck_s h
    refine ps_bald C (pc := 46) 37 rfl rfl hi1 dX2_isWord_46 ?_
    refine ps_aload_n C (pc := 47) dX2_isWord_47 1 rfl ?_
    refine ps_iload_n C (pc := 48) dX2_isWord_48 2 rfl ?_
    obtain ⟨hi2, h⟩ := ps_ck_s h
    refine ps_callTI C Z (pc := 49) (As := [.int a2]) 0 (by decide) (mT_char 0 (by decide) hi2) rfl tw_294 tw_295 tw_296 tw_72 tw_297 hdJ0_charAt_5068e rfl rfl ⟨by decide, by decide⟩ rfl (Nat.le_of_ble_eq_true rfl) dX2_isWord_49 rfl ?_
    refine ps_icmp_eq C (pc := 52) 57 dX2_isWord_52 (by decide) (fun hc => ?_) (fun hc => ?_)
    · have h := ps_ift hc h
      refine ps_iincL C (pc := 57) (zz := 1) (lw := fun x3 => [(2, .int x3), (0, .ref (z_ad z 36)), (1, .ref (e_K (z_E z) 0))]) dX2_isWord_57 2 rfl (by decide) (by decide) (fun _ => rfl) h (fun x3 h => ?_)
      refine ps_goto C (pc := 60) 28 dX2_isWord_60 (by decide) ?_
      obtain rfl := Option.some.inj h
      exact ps_sub [1, 2, 0] rfl k
    · have h := ps_iff hc h
      obtain rfl := Option.some.inj h
      exact ps_sub [] rfl k
def fX2_isWord_36_T0 (σ : ps_S) : Option (Int32) :=
  (if (σ.1 36 7) = (1 : Int32) then (if ((σ.1 36 9) - (σ.1 36 8)) = (6 : Int32) then ((ps_lp (fun s => fX2_isWord_36_T0_S28 σ s) 100000 (0 : Int32)).bind fun e4 =>
  match e4 with | .inl y5 => some (0 : Int32) | .inr y6 => some (1 : Int32))
  else some (0 : Int32))
  else some (0 : Int32))
set_option maxHeartbeats 4000000 in
set_option maxRecDepth 100000 in
theorem tX2_isWord_36_T0 {z : ps_X} (C : ps_C z cX2_isWord 3 "PartSums$Reader") (Z : ps_Z z 6 300) {σ : ps_S}  {r : Int32} (h : fX2_isWord_36_T0 σ = some r) (k : ps_KZ z 3 cX2_isWord r σ) : ps_at z 3 0 [(0, .ref (z_ad z 36)), (1, .ref (e_K (z_E z) 0))] [] σ := by
  unfold fX2_isWord_36_T0 at h
  refine ps_aload_n C (pc := 0) dX2_isWord_0 0 rfl ?_
  refine pg_36_7 C (pc := 1) tw_167 dX2_isWord_1 ?_
  refine ps_iconst C (pc := 4) (v := 1) dX2_isWord_4 (by decide) ?_
  refine ps_icmp_ne C (pc := 5) 24 dX2_isWord_5 (by decide) (fun hc => ?_) (fun hc => ?_)
  · have h := ps_iff hc h
    refine ps_iconst C (pc := 24) (v := 0) dX2_isWord_24 (by decide) ?_
    obtain rfl := Option.some.inj h
    exact k _ _ (Or.inl rfl) dX2_isWord_25
  · have h := ps_ift hc h
    refine ps_aload_n C (pc := 8) dX2_isWord_8 0 rfl ?_
    refine pg_36_9 C (pc := 9) tw_169 dX2_isWord_9 ?_
    refine ps_aload_n C (pc := 12) dX2_isWord_12 0 rfl ?_
    refine pg_36_8 C (pc := 13) tw_168 dX2_isWord_13 ?_
    refine ps_isub C (pc := 16) dX2_isWord_16 ?_
    refine ps_aload_n C (pc := 17) dX2_isWord_17 1 rfl ?_
    refine ps_callTI C Z (pc := 18) (As := []) 0 (by decide) (mT_length 0 (by decide)) rfl tw_284 tw_285 tw_286 tw_72 tw_287 hdJ0_length_8abf5 rfl rfl ⟨by decide, by decide⟩ rfl (Nat.le_of_ble_eq_true rfl) dX2_isWord_18 rfl ?_
    refine ps_num (y := 6) (by decide) ?_
    refine ps_icmp_eq C (pc := 21) 26 dX2_isWord_21 (by decide) (fun hc => ?_) (fun hc => ?_)
    · have h := ps_ift hc h
      refine ps_iconst C (pc := 26) (v := 0) dX2_isWord_26 (by decide) ?_
      refine ps_istore_n C (pc := 27) (lv' := [(2, .int (0 : Int32)), (0, .ref (z_ad z 36)), (1, .ref (e_K (z_E z) 0))]) dX2_isWord_27 (by decide) rfl ?_
      obtain ⟨e4, he4, h⟩ := ps_bd h
      refine ps_sub [1, 2, 0] rfl ?_
      refine ps_loop (P := pX2_isWord_36_T0_S28 z σ) (K := qX2_isWord_36_T0_S28 z σ) (fun s r h k => tX2_isWord_36_T0_S28 C Z σ  s r h k) _ _ _ he4 ?_
      unfold qX2_isWord_36_T0_S28
      rcases e4 with y5 | w_y5
      · refine ps_iconst C (pc := 55) (v := 0) dX2_isWord_55 (by decide) ?_
        obtain rfl := Option.some.inj h
        exact k _ _ (Or.inl rfl) dX2_isWord_56
      · generalize w_y5 = y6 at h ⊢
        refine ps_iconst C (pc := 63) (v := 1) dX2_isWord_63 (by decide) ?_
        obtain rfl := Option.some.inj h
        exact k _ _ (Or.inr rfl) dX2_isWord_64
    · have h := ps_iff hc h
      refine ps_iconst C (pc := 24) (v := 0) dX2_isWord_24 (by decide) ?_
      obtain rfl := Option.some.inj h
      exact k _ _ (Or.inl rfl) dX2_isWord_25
def rmX2_isWord_36_T0 : Room := { frames := 6, cells := 0, slots := 0, locals := 300 }
theorem mX2_isWord_36_T0 {l : Launch} {E : ps_E} {σ : ps_S}  {r : Int32}  (h : fX2_isWord_36_T0 σ = some r) : ps_MI l yX2_isWord (ps_wm yX2_isWord cX2_isWord 3 (some .boolean)) rmX2_isWord_36_T0 [.ref (e_ad E 36), .ref (e_K E 0)] E σ r σ :=
  ps_metZ yX2_isWord rmX2_isWord_36_T0 3 (own := "PartSums$Reader") r (by decide +kernel) rfl (Nat.le_of_ble_eq_true rfl) rfl (fun z e1 e2 e3 e4 e5 C k => by
    subst e5
    exact tX2_isWord_36_T0 C (ps_Zof e1 e3 e4)  h k)
theorem hdX2_isWord : yX2_isWord.cls ≠ "java/lang/invoke/MethodHandle" ∧ yX2_isWord.cls ≠ "java/lang/invoke/VarHandle" ∧ (parseMethodDescriptor yX2_isWord.desc).map (fun d => d.parameters.length) = some 1 := by decide +kernel
def pX2_isWord_36_T1_S28 (z : ps_X)  (σ : ps_S) (s : Int32) : Prop := ps_at z 3 28 [(0, .ref (z_ad z 36)), (1, .ref (e_K (z_E z) 1)), (2, .int s)] [] σ
def qX2_isWord_36_T1_S28 (z : ps_X)  (σ : ps_S) (x : (Unit) ⊕ (Unit)) : Prop := match x with | .inl y => ps_at z 3 55 [] [] σ | .inr y => ps_at z 3 63 [] [] σ
def fX2_isWord_36_T1_S28  (σ : ps_S) (a2 : Int32) : Option ((Int32) ⊕ ((Unit) ⊕ (Unit))) :=
  (if (3 : Int32) ≤ a2 then some (.inr (.inr ()))
  else (ps_ck ((σ.1 36 8) + a2) 540 ((ps_ck a2 3 ((if (σ.1 37 (Int32.toNatClampNeg ((σ.1 36 8) + a2))) = (ps_ch 1 a2) then (ps_let (a2 + (1 : Int32)) fun x3 =>
  some (.inl x3))
  else some (.inr (.inl ()))))))))
set_option maxHeartbeats 4000000 in
set_option maxRecDepth 100000 in
theorem tX2_isWord_36_T1_S28 {z : ps_X} (C : ps_C z cX2_isWord 3 "PartSums$Reader") (Z : ps_Z z 6 300)  (σ : ps_S)  (s : Int32) (r : (Int32) ⊕ ((Unit) ⊕ (Unit))) (h : fX2_isWord_36_T1_S28  σ s = some r) (k : ps_k (pX2_isWord_36_T1_S28 z σ) (qX2_isWord_36_T1_S28 z σ) r) : pX2_isWord_36_T1_S28 z σ s := by
  generalize s = a2 at h ⊢
  unfold fX2_isWord_36_T1_S28 at h
  unfold pX2_isWord_36_T1_S28
  refine ps_iload_n C (pc := 28) dX2_isWord_28 2 rfl ?_
  refine ps_aload_n C (pc := 29) dX2_isWord_29 1 rfl ?_
  refine ps_callTI C Z (pc := 30) (As := []) 1 (by decide) (mT_length 1 (by decide)) rfl tw_284 tw_285 tw_286 tw_72 tw_287 hdJ0_length_8abf5 rfl rfl ⟨by decide, by decide⟩ rfl (Nat.le_of_ble_eq_true rfl) dX2_isWord_30 rfl ?_
  refine ps_num (y := 3) (by decide) ?_
  refine ps_icmp_ge C (pc := 33) 63 dX2_isWord_33 (by decide) (fun hc => ?_) (fun hc => ?_)
  · have h := ps_ift hc h
    obtain rfl := Option.some.inj h
    exact ps_sub [] rfl k
  · have h := ps_iff hc h
    refine ps_aload_n C (pc := 36) dX2_isWord_36 0 rfl ?_
    refine pg_36_0 C (pc := 37) tw_154 dX2_isWord_37 ?_
    refine ps_aload_n C (pc := 40) dX2_isWord_40 0 rfl ?_
    refine pg_36_8 C (pc := 41) tw_168 dX2_isWord_41 ?_
    refine ps_iload_n C (pc := 44) dX2_isWord_44 2 rfl ?_
    refine ps_iadd C (pc := 45) dX2_isWord_45 ?_
    obtain ⟨hi1, h⟩ := ps_ck_s h
    refine ps_bald C (pc := 46) 37 rfl rfl hi1 dX2_isWord_46 ?_
    refine ps_aload_n C (pc := 47) dX2_isWord_47 1 rfl ?_
    refine ps_iload_n C (pc := 48) dX2_isWord_48 2 rfl ?_
    obtain ⟨hi2, h⟩ := ps_ck_s h
    refine ps_callTI C Z (pc := 49) (As := [.int a2]) 1 (by decide) (mT_char 1 (by decide) hi2) rfl tw_294 tw_295 tw_296 tw_72 tw_297 hdJ0_charAt_5068e rfl rfl ⟨by decide, by decide⟩ rfl (Nat.le_of_ble_eq_true rfl) dX2_isWord_49 rfl ?_
    refine ps_icmp_eq C (pc := 52) 57 dX2_isWord_52 (by decide) (fun hc => ?_) (fun hc => ?_)
    · have h := ps_ift hc h
      refine ps_iincL C (pc := 57) (zz := 1) (lw := fun x3 => [(2, .int x3), (0, .ref (z_ad z 36)), (1, .ref (e_K (z_E z) 1))]) dX2_isWord_57 2 rfl (by decide) (by decide) (fun _ => rfl) h (fun x3 h => ?_)
      refine ps_goto C (pc := 60) 28 dX2_isWord_60 (by decide) ?_
      obtain rfl := Option.some.inj h
      exact ps_sub [1, 2, 0] rfl k
    · have h := ps_iff hc h
      obtain rfl := Option.some.inj h
      exact ps_sub [] rfl k
def fX2_isWord_36_T1 (σ : ps_S) : Option (Int32) :=
  (if (σ.1 36 7) = (1 : Int32) then (if ((σ.1 36 9) - (σ.1 36 8)) = (3 : Int32) then ((ps_lp (fun s => fX2_isWord_36_T1_S28 σ s) 100000 (0 : Int32)).bind fun e4 =>
  match e4 with | .inl y5 => some (0 : Int32) | .inr y6 => some (1 : Int32))
  else some (0 : Int32))
  else some (0 : Int32))
set_option maxHeartbeats 4000000 in
set_option maxRecDepth 100000 in
theorem tX2_isWord_36_T1 {z : ps_X} (C : ps_C z cX2_isWord 3 "PartSums$Reader") (Z : ps_Z z 6 300) {σ : ps_S}  {r : Int32} (h : fX2_isWord_36_T1 σ = some r) (k : ps_KZ z 3 cX2_isWord r σ) : ps_at z 3 0 [(0, .ref (z_ad z 36)), (1, .ref (e_K (z_E z) 1))] [] σ := by
  unfold fX2_isWord_36_T1 at h
  refine ps_aload_n C (pc := 0) dX2_isWord_0 0 rfl ?_
  refine pg_36_7 C (pc := 1) tw_167 dX2_isWord_1 ?_
  refine ps_iconst C (pc := 4) (v := 1) dX2_isWord_4 (by decide) ?_
  refine ps_icmp_ne C (pc := 5) 24 dX2_isWord_5 (by decide) (fun hc => ?_) (fun hc => ?_)
  · have h := ps_iff hc h
    refine ps_iconst C (pc := 24) (v := 0) dX2_isWord_24 (by decide) ?_
    obtain rfl := Option.some.inj h
    exact k _ _ (Or.inl rfl) dX2_isWord_25
  · have h := ps_ift hc h
    refine ps_aload_n C (pc := 8) dX2_isWord_8 0 rfl ?_
    refine pg_36_9 C (pc := 9) tw_169 dX2_isWord_9 ?_
    refine ps_aload_n C (pc := 12) dX2_isWord_12 0 rfl ?_
    refine pg_36_8 C (pc := 13) tw_168 dX2_isWord_13 ?_
    refine ps_isub C (pc := 16) dX2_isWord_16 ?_
    refine ps_aload_n C (pc := 17) dX2_isWord_17 1 rfl ?_
    refine ps_callTI C Z (pc := 18) (As := []) 1 (by decide) (mT_length 1 (by decide)) rfl tw_284 tw_285 tw_286 tw_72 tw_287 hdJ0_length_8abf5 rfl rfl ⟨by decide, by decide⟩ rfl (Nat.le_of_ble_eq_true rfl) dX2_isWord_18 rfl ?_
    refine ps_num (y := 3) (by decide) ?_
    refine ps_icmp_eq C (pc := 21) 26 dX2_isWord_21 (by decide) (fun hc => ?_) (fun hc => ?_)
    · have h := ps_ift hc h
      refine ps_iconst C (pc := 26) (v := 0) dX2_isWord_26 (by decide) ?_
      refine ps_istore_n C (pc := 27) (lv' := [(2, .int (0 : Int32)), (0, .ref (z_ad z 36)), (1, .ref (e_K (z_E z) 1))]) dX2_isWord_27 (by decide) rfl ?_
      obtain ⟨e4, he4, h⟩ := ps_bd h
      refine ps_sub [1, 2, 0] rfl ?_
      refine ps_loop (P := pX2_isWord_36_T1_S28 z σ) (K := qX2_isWord_36_T1_S28 z σ) (fun s r h k => tX2_isWord_36_T1_S28 C Z σ  s r h k) _ _ _ he4 ?_
      unfold qX2_isWord_36_T1_S28
      rcases e4 with y5 | w_y5
      · refine ps_iconst C (pc := 55) (v := 0) dX2_isWord_55 (by decide) ?_
        obtain rfl := Option.some.inj h
        exact k _ _ (Or.inl rfl) dX2_isWord_56
      · generalize w_y5 = y6 at h ⊢
        refine ps_iconst C (pc := 63) (v := 1) dX2_isWord_63 (by decide) ?_
        obtain rfl := Option.some.inj h
        exact k _ _ (Or.inr rfl) dX2_isWord_64
    · have h := ps_iff hc h
      refine ps_iconst C (pc := 24) (v := 0) dX2_isWord_24 (by decide) ?_
      obtain rfl := Option.some.inj h
      exact k _ _ (Or.inl rfl) dX2_isWord_25
def rmX2_isWord_36_T1 : Room := { frames := 6, cells := 0, slots := 0, locals := 300 }
theorem mX2_isWord_36_T1 {l : Launch} {E : ps_E} {σ : ps_S}  {r : Int32}  (h : fX2_isWord_36_T1 σ = some r) : ps_MI l yX2_isWord (ps_wm yX2_isWord cX2_isWord 3 (some .boolean)) rmX2_isWord_36_T1 [.ref (e_ad E 36), .ref (e_K E 1)] E σ r σ :=
  ps_metZ yX2_isWord rmX2_isWord_36_T1 3 (own := "PartSums$Reader") r (by decide +kernel) rfl (Nat.le_of_ble_eq_true rfl) rfl (fun z e1 e2 e3 e4 e5 C k => by
    subst e5
    exact tX2_isWord_36_T1 C (ps_Zof e1 e3 e4)  h k)
def pX2_isWord_36_T2_S28 (z : ps_X)  (σ : ps_S) (s : Int32) : Prop := ps_at z 3 28 [(0, .ref (z_ad z 36)), (1, .ref (e_K (z_E z) 2)), (2, .int s)] [] σ
def qX2_isWord_36_T2_S28 (z : ps_X)  (σ : ps_S) (x : (Unit) ⊕ (Unit)) : Prop := match x with | .inl y => ps_at z 3 55 [] [] σ | .inr y => ps_at z 3 63 [] [] σ
def fX2_isWord_36_T2_S28  (σ : ps_S) (a2 : Int32) : Option ((Int32) ⊕ ((Unit) ⊕ (Unit))) :=
  (if (4 : Int32) ≤ a2 then some (.inr (.inr ()))
  else (ps_ck ((σ.1 36 8) + a2) 540 ((ps_ck a2 4 ((if (σ.1 37 (Int32.toNatClampNeg ((σ.1 36 8) + a2))) = (ps_ch 2 a2) then (ps_let (a2 + (1 : Int32)) fun x3 =>
  some (.inl x3))
  else some (.inr (.inl ()))))))))
set_option maxHeartbeats 4000000 in
set_option maxRecDepth 100000 in
theorem tX2_isWord_36_T2_S28 {z : ps_X} (C : ps_C z cX2_isWord 3 "PartSums$Reader") (Z : ps_Z z 6 300)  (σ : ps_S)  (s : Int32) (r : (Int32) ⊕ ((Unit) ⊕ (Unit))) (h : fX2_isWord_36_T2_S28  σ s = some r) (k : ps_k (pX2_isWord_36_T2_S28 z σ) (qX2_isWord_36_T2_S28 z σ) r) : pX2_isWord_36_T2_S28 z σ s := by
  generalize s = a2 at h ⊢
  unfold fX2_isWord_36_T2_S28 at h
  unfold pX2_isWord_36_T2_S28
  refine ps_iload_n C (pc := 28) dX2_isWord_28 2 rfl ?_
  refine ps_aload_n C (pc := 29) dX2_isWord_29 1 rfl ?_
  refine ps_callTI C Z (pc := 30) (As := []) 2 (by decide) (mT_length 2 (by decide)) rfl tw_284 tw_285 tw_286 tw_72 tw_287 hdJ0_length_8abf5 rfl rfl ⟨by decide, by decide⟩ rfl (Nat.le_of_ble_eq_true rfl) dX2_isWord_30 rfl ?_
  refine ps_num (y := 4) (by decide) ?_
  refine ps_icmp_ge C (pc := 33) 63 dX2_isWord_33 (by decide) (fun hc => ?_) (fun hc => ?_)
  · have h := ps_ift hc h
    obtain rfl := Option.some.inj h
    exact ps_sub [] rfl k
  · have h := ps_iff hc h
    refine ps_aload_n C (pc := 36) dX2_isWord_36 0 rfl ?_
    refine pg_36_0 C (pc := 37) tw_154 dX2_isWord_37 ?_
    refine ps_aload_n C (pc := 40) dX2_isWord_40 0 rfl ?_
    refine pg_36_8 C (pc := 41) tw_168 dX2_isWord_41 ?_
    refine ps_iload_n C (pc := 44) dX2_isWord_44 2 rfl ?_
    refine ps_iadd C (pc := 45) dX2_isWord_45 ?_
    obtain ⟨hi1, h⟩ := ps_ck_s h
    refine ps_bald C (pc := 46) 37 rfl rfl hi1 dX2_isWord_46 ?_
    refine ps_aload_n C (pc := 47) dX2_isWord_47 1 rfl ?_
    refine ps_iload_n C (pc := 48) dX2_isWord_48 2 rfl ?_
    obtain ⟨hi2, h⟩ := ps_ck_s h
    refine ps_callTI C Z (pc := 49) (As := [.int a2]) 2 (by decide) (mT_char 2 (by decide) hi2) rfl tw_294 tw_295 tw_296 tw_72 tw_297 hdJ0_charAt_5068e rfl rfl ⟨by decide, by decide⟩ rfl (Nat.le_of_ble_eq_true rfl) dX2_isWord_49 rfl ?_
    refine ps_icmp_eq C (pc := 52) 57 dX2_isWord_52 (by decide) (fun hc => ?_) (fun hc => ?_)
    · have h := ps_ift hc h
      refine ps_iincL C (pc := 57) (zz := 1) (lw := fun x3 => [(2, .int x3), (0, .ref (z_ad z 36)), (1, .ref (e_K (z_E z) 2))]) dX2_isWord_57 2 rfl (by decide) (by decide) (fun _ => rfl) h (fun x3 h => ?_)
      refine ps_goto C (pc := 60) 28 dX2_isWord_60 (by decide) ?_
      obtain rfl := Option.some.inj h
      exact ps_sub [1, 2, 0] rfl k
    · have h := ps_iff hc h
      obtain rfl := Option.some.inj h
      exact ps_sub [] rfl k
def fX2_isWord_36_T2 (σ : ps_S) : Option (Int32) :=
  (if (σ.1 36 7) = (1 : Int32) then (if ((σ.1 36 9) - (σ.1 36 8)) = (4 : Int32) then ((ps_lp (fun s => fX2_isWord_36_T2_S28 σ s) 100000 (0 : Int32)).bind fun e4 =>
  match e4 with | .inl y5 => some (0 : Int32) | .inr y6 => some (1 : Int32))
  else some (0 : Int32))
  else some (0 : Int32))
set_option maxHeartbeats 4000000 in
set_option maxRecDepth 100000 in
theorem tX2_isWord_36_T2 {z : ps_X} (C : ps_C z cX2_isWord 3 "PartSums$Reader") (Z : ps_Z z 6 300) {σ : ps_S}  {r : Int32} (h : fX2_isWord_36_T2 σ = some r) (k : ps_KZ z 3 cX2_isWord r σ) : ps_at z 3 0 [(0, .ref (z_ad z 36)), (1, .ref (e_K (z_E z) 2))] [] σ := by
  unfold fX2_isWord_36_T2 at h
  refine ps_aload_n C (pc := 0) dX2_isWord_0 0 rfl ?_
  refine pg_36_7 C (pc := 1) tw_167 dX2_isWord_1 ?_
  refine ps_iconst C (pc := 4) (v := 1) dX2_isWord_4 (by decide) ?_
  refine ps_icmp_ne C (pc := 5) 24 dX2_isWord_5 (by decide) (fun hc => ?_) (fun hc => ?_)
  · have h := ps_iff hc h
    refine ps_iconst C (pc := 24) (v := 0) dX2_isWord_24 (by decide) ?_
    obtain rfl := Option.some.inj h
    exact k _ _ (Or.inl rfl) dX2_isWord_25
  · have h := ps_ift hc h
    refine ps_aload_n C (pc := 8) dX2_isWord_8 0 rfl ?_
    refine pg_36_9 C (pc := 9) tw_169 dX2_isWord_9 ?_
    refine ps_aload_n C (pc := 12) dX2_isWord_12 0 rfl ?_
    refine pg_36_8 C (pc := 13) tw_168 dX2_isWord_13 ?_
    refine ps_isub C (pc := 16) dX2_isWord_16 ?_
    refine ps_aload_n C (pc := 17) dX2_isWord_17 1 rfl ?_
    refine ps_callTI C Z (pc := 18) (As := []) 2 (by decide) (mT_length 2 (by decide)) rfl tw_284 tw_285 tw_286 tw_72 tw_287 hdJ0_length_8abf5 rfl rfl ⟨by decide, by decide⟩ rfl (Nat.le_of_ble_eq_true rfl) dX2_isWord_18 rfl ?_
    refine ps_num (y := 4) (by decide) ?_
    refine ps_icmp_eq C (pc := 21) 26 dX2_isWord_21 (by decide) (fun hc => ?_) (fun hc => ?_)
    · have h := ps_ift hc h
      refine ps_iconst C (pc := 26) (v := 0) dX2_isWord_26 (by decide) ?_
      refine ps_istore_n C (pc := 27) (lv' := [(2, .int (0 : Int32)), (0, .ref (z_ad z 36)), (1, .ref (e_K (z_E z) 2))]) dX2_isWord_27 (by decide) rfl ?_
      obtain ⟨e4, he4, h⟩ := ps_bd h
      refine ps_sub [1, 2, 0] rfl ?_
      refine ps_loop (P := pX2_isWord_36_T2_S28 z σ) (K := qX2_isWord_36_T2_S28 z σ) (fun s r h k => tX2_isWord_36_T2_S28 C Z σ  s r h k) _ _ _ he4 ?_
      unfold qX2_isWord_36_T2_S28
      rcases e4 with y5 | w_y5
      · refine ps_iconst C (pc := 55) (v := 0) dX2_isWord_55 (by decide) ?_
        obtain rfl := Option.some.inj h
        exact k _ _ (Or.inl rfl) dX2_isWord_56
      · generalize w_y5 = y6 at h ⊢
        refine ps_iconst C (pc := 63) (v := 1) dX2_isWord_63 (by decide) ?_
        obtain rfl := Option.some.inj h
        exact k _ _ (Or.inr rfl) dX2_isWord_64
    · have h := ps_iff hc h
      refine ps_iconst C (pc := 24) (v := 0) dX2_isWord_24 (by decide) ?_
      obtain rfl := Option.some.inj h
      exact k _ _ (Or.inl rfl) dX2_isWord_25
def rmX2_isWord_36_T2 : Room := { frames := 6, cells := 0, slots := 0, locals := 300 }
theorem mX2_isWord_36_T2 {l : Launch} {E : ps_E} {σ : ps_S}  {r : Int32}  (h : fX2_isWord_36_T2 σ = some r) : ps_MI l yX2_isWord (ps_wm yX2_isWord cX2_isWord 3 (some .boolean)) rmX2_isWord_36_T2 [.ref (e_ad E 36), .ref (e_K E 2)] E σ r σ :=
  ps_metZ yX2_isWord rmX2_isWord_36_T2 3 (own := "PartSums$Reader") r (by decide +kernel) rfl (Nat.le_of_ble_eq_true rfl) rfl (fun z e1 e2 e3 e4 e5 C k => by
    subst e5
    exact tX2_isWord_36_T2 C (ps_Zof e1 e3 e4)  h k)
def fX2_readLine_J23 (a1 : Int32) (σ : ps_S) : Option (Int32 × ps_S) :=
  (if a1 = 0 then ((fX2_isWord_36_T1 σ).bind fun q2 =>
  (if q2 = 0 then ((fX2_isWord_36_T2 σ).bind fun q3 =>
  (if q3 = 0 then ((fX2_blame (1 : Int32) σ).bind fun q4 =>
  (ps_cb q4.1 (some (q4.1, q4.2))))
  else ((fX2_readPair σ).bind fun q6 =>
  (ps_cb q6.1 (some (q6.1, q6.2))))))
  else ((fX2_readSet σ).bind fun q8 =>
  (ps_cb q8.1 (some (q8.1, q8.2))))))
  else ((fX2_isWord_36_T0 σ).bind fun q10 =>
  (if q10 = 0 then ((fX2_blame (1 : Int32) σ).bind fun q11 =>
  (ps_cb q11.1 (some (q11.1, q11.2))))
  else ((fX2_readThings σ).bind fun q13 =>
  (ps_cb q13.1 (some (q13.1, q13.2)))))))
set_option maxHeartbeats 4000000 in
set_option maxRecDepth 100000 in
theorem tX2_readLine_J23 {z : ps_X} (C : ps_C z cX2_readLine 2 "PartSums$Reader") (Z : ps_Z z 7 322) {a1 : Int32} {σ : ps_S}  {r : Int32 × ps_S} (h : fX2_readLine_J23 a1 σ = some r) (k : ps_KZ z 2 cX2_readLine r.1 r.2) : ps_at z 2 23 [(0, .ref (z_ad z 36)), (1, .int a1)] [] σ := by
  unfold fX2_readLine_J23 at h
  refine ps_iload_n C (pc := 23) dX2_readLine_23 1 rfl ?_
  refine ps_if_eq C (pc := 24) 49 dX2_readLine_24 (by decide) (fun hc => ?_) (fun hc => ?_)
  · have h := ps_ift hc h
    refine ps_aload_n C (pc := 49) dX2_readLine_49 0 rfl ?_
    refine ps_ldcS1 C (pc := 50) dX2_readLine_50 ?_
    obtain ⟨q2, hq2, h⟩ := ps_bd h
    refine ps_callVI C Z (pc := 52) (As := [.ref (e_K (z_E z) 1)]) (k0 := 36) (mX2_isWord_36_T1  hq2) (Cn := "PartSums$Reader") rfl tw_280 tw_282 tw_3 tw_68 tw_283 hdX2_isWord rfl rfl ⟨by decide, by decide⟩ (by decide) ps_o36 rfl rfl (Nat.le_of_ble_eq_true rfl) dX2_readLine_52 rfl ?_
    refine ps_if_eq C (pc := 55) 63 dX2_readLine_55 (by decide) (fun hc => ?_) (fun hc => ?_)
    · have h := ps_ift hc h
      refine ps_aload_n C (pc := 63) dX2_readLine_63 0 rfl ?_
      refine ps_ldcS2 C (pc := 64) dX2_readLine_64 ?_
      obtain ⟨q3, hq3, h⟩ := ps_bd h
      refine ps_callVI C Z (pc := 66) (As := [.ref (e_K (z_E z) 2)]) (k0 := 36) (mX2_isWord_36_T2  hq3) (Cn := "PartSums$Reader") rfl tw_280 tw_282 tw_3 tw_68 tw_283 hdX2_isWord rfl rfl ⟨by decide, by decide⟩ (by decide) ps_o36 rfl rfl (Nat.le_of_ble_eq_true rfl) dX2_readLine_66 rfl ?_
      refine ps_if_eq C (pc := 69) 79 dX2_readLine_69 (by decide) (fun hc => ?_) (fun hc => ?_)
      · have h := ps_ift hc h
        refine ps_aload_n C (pc := 79) dX2_readLine_79 0 rfl ?_
        refine ps_iconst C (pc := 80) (v := 1) dX2_readLine_80 (by decide) ?_
        obtain ⟨q4, hq4, h⟩ := ps_bd h
        refine ps_callVI C Z (pc := 81) (As := [.int (1 : Int32)]) (k0 := 36) (mX2_blame  hq4) (Cn := "PartSums$Reader") rfl tw_336 tw_338 tw_5 tw_68 tw_339 hdX2_blame rfl rfl ⟨by decide, by decide⟩ (by decide) ps_o36 rfl rfl (Nat.le_of_ble_eq_true rfl) dX2_readLine_81 rfl ?_
        obtain ⟨hb5, h⟩ := ps_cb_s h
        obtain rfl := Option.some.inj h
        exact k _ _ hb5 dX2_readLine_84
      · have h := ps_iff hc h
        refine ps_aload_n C (pc := 72) dX2_readLine_72 0 rfl ?_
        obtain ⟨q6, hq6, h⟩ := ps_bd h
        refine ps_callVI C Z (pc := 73) (As := []) (k0 := 36) (mX2_readPair  hq6) (Cn := "PartSums$Reader") rfl tw_354 tw_356 tw_9 tw_68 tw_357 hdX2_readPair rfl rfl ⟨by decide, by decide⟩ (by decide) ps_o36 rfl rfl (Nat.le_of_ble_eq_true rfl) dX2_readLine_73 rfl ?_
        refine ps_goto C (pc := 76) 84 dX2_readLine_76 (by decide) ?_
        obtain ⟨hb7, h⟩ := ps_cb_s h
        obtain rfl := Option.some.inj h
        exact k _ _ hb7 dX2_readLine_84
    · have h := ps_iff hc h
      refine ps_aload_n C (pc := 58) dX2_readLine_58 0 rfl ?_
      obtain ⟨q8, hq8, h⟩ := ps_bd h
      refine ps_callVI C Z (pc := 59) (As := []) (k0 := 36) (mX2_readSet  hq8) (Cn := "PartSums$Reader") rfl tw_345 tw_347 tw_7 tw_68 tw_348 hdX2_readSet rfl rfl ⟨by decide, by decide⟩ (by decide) ps_o36 rfl rfl (Nat.le_of_ble_eq_true rfl) dX2_readLine_59 rfl ?_
      obtain ⟨hb9, h⟩ := ps_cb_s h
      obtain rfl := Option.some.inj h
      exact k _ _ hb9 dX2_readLine_62
  · have h := ps_iff hc h
    refine ps_aload_n C (pc := 27) dX2_readLine_27 0 rfl ?_
    refine ps_ldcS0 C (pc := 28) dX2_readLine_28 ?_
    obtain ⟨q10, hq10, h⟩ := ps_bd h
    refine ps_callVI C Z (pc := 30) (As := [.ref (e_K (z_E z) 0)]) (k0 := 36) (mX2_isWord_36_T0  hq10) (Cn := "PartSums$Reader") rfl tw_280 tw_282 tw_3 tw_68 tw_283 hdX2_isWord rfl rfl ⟨by decide, by decide⟩ (by decide) ps_o36 rfl rfl (Nat.le_of_ble_eq_true rfl) dX2_readLine_30 rfl ?_
    refine ps_if_eq C (pc := 33) 43 dX2_readLine_33 (by decide) (fun hc => ?_) (fun hc => ?_)
    · have h := ps_ift hc h
      refine ps_aload_n C (pc := 43) dX2_readLine_43 0 rfl ?_
      refine ps_iconst C (pc := 44) (v := 1) dX2_readLine_44 (by decide) ?_
      obtain ⟨q11, hq11, h⟩ := ps_bd h
      refine ps_callVI C Z (pc := 45) (As := [.int (1 : Int32)]) (k0 := 36) (mX2_blame  hq11) (Cn := "PartSums$Reader") rfl tw_336 tw_338 tw_5 tw_68 tw_339 hdX2_blame rfl rfl ⟨by decide, by decide⟩ (by decide) ps_o36 rfl rfl (Nat.le_of_ble_eq_true rfl) dX2_readLine_45 rfl ?_
      obtain ⟨hb12, h⟩ := ps_cb_s h
      obtain rfl := Option.some.inj h
      exact k _ _ hb12 dX2_readLine_48
    · have h := ps_iff hc h
      refine ps_aload_n C (pc := 36) dX2_readLine_36 0 rfl ?_
      obtain ⟨q13, hq13, h⟩ := ps_bd h
      refine ps_callVI C Z (pc := 37) (As := []) (k0 := 36) (mX2_readThings  hq13) (Cn := "PartSums$Reader") rfl tw_332 tw_334 tw_4 tw_68 tw_335 hdX2_readThings rfl rfl ⟨by decide, by decide⟩ (by decide) ps_o36 rfl rfl (Nat.le_of_ble_eq_true rfl) dX2_readLine_37 rfl ?_
      refine ps_goto C (pc := 40) 48 dX2_readLine_40 (by decide) ?_
      obtain ⟨hb14, h⟩ := ps_cb_s h
      obtain rfl := Option.some.inj h
      exact k _ _ hb14 dX2_readLine_48
def fX2_readLine (a1 : Int32) (σ : ps_S) : Option (Int32 × ps_S) :=
  ((fX2_nextToken σ).bind fun q1 =>
  (if (q1.1 36 7) = 0 then (if (500 : Int32) < (q1.1 36 1) then fX2_readLine_J23 a1 q1
  else some ((0 : Int32), q1))
  else fX2_readLine_J23 a1 q1))
set_option maxHeartbeats 4000000 in
set_option maxRecDepth 100000 in
theorem tX2_readLine {z : ps_X} (C : ps_C z cX2_readLine 2 "PartSums$Reader") (Z : ps_Z z 7 322) {a1 : Int32} {σ : ps_S}  {r : Int32 × ps_S} (h : fX2_readLine a1 σ = some r) (k : ps_KZ z 2 cX2_readLine r.1 r.2) : ps_at z 2 0 [(0, .ref (z_ad z 36)), (1, .int a1)] [] σ := by
  unfold fX2_readLine at h
  refine ps_aload_n C (pc := 0) dX2_readLine_0 0 rfl ?_
  obtain ⟨q1, hq1, h⟩ := ps_bd h
  refine ps_callVV C Z (pc := 1) (As := []) (k0 := 36) (mX2_nextToken  hq1) (Cn := "PartSums$Reader") rfl tw_262 tw_264 tw_1 tw_68 tw_265 hdX2_nextToken rfl rfl ⟨by decide, by decide⟩ (by decide) ps_o36 rfl rfl (Nat.le_of_ble_eq_true rfl) dX2_readLine_1 rfl ?_
  refine ps_aload_n C (pc := 4) dX2_readLine_4 0 rfl ?_
  refine pg_36_7 C (pc := 5) tw_167 dX2_readLine_5 ?_
  refine ps_if_ne C (pc := 8) 23 dX2_readLine_8 (by decide) (fun hc => ?_) (fun hc => ?_)
  · have h := ps_iff hc h
    exact ps_sub [0, 1] rfl (tX2_readLine_J23 C Z  h k)
  · have h := ps_ift hc h
    refine ps_aload_n C (pc := 11) dX2_readLine_11 0 rfl ?_
    refine pg_36_1 C (pc := 12) tw_155 dX2_readLine_12 ?_
    refine ps_sipush C (pc := 15) (v := 500) dX2_readLine_15 (by decide) ?_
    refine ps_icmp_gt C (pc := 18) 23 dX2_readLine_18 (by decide) (fun hc => ?_) (fun hc => ?_)
    · have h := ps_ift hc h
      exact ps_sub [0, 1] rfl (tX2_readLine_J23 C Z  h k)
    · have h := ps_iff hc h
      refine ps_iconst C (pc := 21) (v := 0) dX2_readLine_21 (by decide) ?_
      obtain rfl := Option.some.inj h
      exact k _ _ (Or.inl rfl) dX2_readLine_22
def rmX2_readLine : Room := { frames := 7, cells := 0, slots := 0, locals := 322 }
theorem mX2_readLine {l : Launch} {E : ps_E} {σ : ps_S} {a1 : Int32} {r : Int32 × ps_S}  (h : fX2_readLine a1 σ = some r) : ps_MI l yX2_readLine (ps_wm yX2_readLine cX2_readLine 2 (some .boolean)) rmX2_readLine [.ref (e_ad E 36), .int a1] E σ r.1 r.2 :=
  ps_metZ yX2_readLine rmX2_readLine 2 (own := "PartSums$Reader") r.1 (by decide +kernel) rfl (Nat.le_of_ble_eq_true rfl) rfl (fun z e1 e2 e3 e4 e5 C k => by
    subst e5
    exact tX2_readLine C (ps_Zof e1 e3 e4)  h k)
theorem hdX2_readLine : yX2_readLine.cls ≠ "java/lang/invoke/MethodHandle" ∧ yX2_readLine.cls ≠ "java/lang/invoke/VarHandle" ∧ (parseMethodDescriptor yX2_readLine.desc).map (fun d => d.parameters.length) = some 1 := by decide +kernel
def pX2_readAll_S17 (z : ps_X)  (s : Int32 × ps_S) : Prop := ps_at z 2 17 [(0, .ref (z_ad z 36)), (1, .int s.1)] [] s.2
def qX2_readAll_S17 (z : ps_X)  (x : (ps_S)) : Prop := match x with | y => ps_at z 2 37 [(0, .ref (z_ad z 36))] [] y
def fX2_readAll_S17  (a1 : Int32) (σ : ps_S) : Option ((Int32 × ps_S) ⊕ ((ps_S))) :=
  (if (256 : Int32) ≤ a1 then some (.inr σ)
  else (ps_ck a1 256 ((ps_let (ps_ui σ 38 (Int32.toNatClampNeg a1) (0 : Int32)) fun σ5 =>
  (ps_let (a1 + (1 : Int32)) fun x6 =>
  some (.inl (x6, σ5)))))))
set_option maxHeartbeats 4000000 in
set_option maxRecDepth 100000 in
theorem tX2_readAll_S17 {z : ps_X} (C : ps_C z cX2_readAll 2 "PartSums$Reader") (Z : ps_Z z 8 343)   (s : Int32 × ps_S) (r : (Int32 × ps_S) ⊕ ((ps_S))) (h : fX2_readAll_S17  s.1 s.2 = some r) (k : ps_k (pX2_readAll_S17 z ) (qX2_readAll_S17 z ) r) : pX2_readAll_S17 z  s := by
  obtain ⟨a1, σ⟩ := s
  unfold fX2_readAll_S17 at h
  unfold pX2_readAll_S17
  refine ps_iload_n C (pc := 17) dX2_readAll_17 1 rfl ?_
  refine ps_sipush C (pc := 18) (v := 256) dX2_readAll_18 (by decide) ?_
  refine ps_icmp_ge C (pc := 21) 37 dX2_readAll_21 (by decide) (fun hc => ?_) (fun hc => ?_)
  · have h := ps_ift hc h
    obtain rfl := Option.some.inj h
    exact ps_sub [0] rfl k
  · have h := ps_iff hc h
    refine ps_aload_n C (pc := 24) dX2_readAll_24 0 rfl ?_
    refine pg_36_6 C (pc := 25) tw_165 dX2_readAll_25 ?_
    refine ps_iload_n C (pc := 28) dX2_readAll_28 1 rfl ?_
    refine ps_iconst C (pc := 29) (v := 0) dX2_readAll_29 (by decide) ?_
    obtain ⟨hi4, h⟩ := ps_ck_s h
    refine ps_iastL C (pc := 30) 38 rfl rfl hi4 dX2_readAll_30 h (fun σ5 h => ?_)
    refine ps_iincL C (pc := 31) (zz := 1) (lw := fun x6 => [(1, .int x6), (0, .ref (z_ad z 36))]) dX2_readAll_31 1 rfl (by decide) (by decide) (fun _ => rfl) h (fun x6 h => ?_)
    refine ps_goto C (pc := 34) 17 dX2_readAll_34 (by decide) ?_
    obtain rfl := Option.some.inj h
    exact ps_sub [1, 0] rfl k
def pX2_readAll_S44 (z : ps_X)  (s : Int32 × ps_S) : Prop := ps_at z 2 44 [(0, .ref (z_ad z 36)), (1, .int s.1)] [] s.2
def qX2_readAll_S44 (z : ps_X)  (x : (Int32 × ps_S)) : Prop := match x with | y => ps_at z 2 73 [(1, .int y.1)] [] y.2
def fX2_readAll_J61 (a1 : Int32) (u0 : Int32) (σ : ps_S) : Option ((Int32 × ps_S) ⊕ ((Int32 × ps_S))) :=
  ((fX2_readLine u0 σ).bind fun q9 =>
  (if q9.1 = 0 then some (.inr (a1, q9.2))
  else (ps_let (a1 + (1 : Int32)) fun x10 =>
  some (.inl (x10, q9.2)))))
set_option maxHeartbeats 4000000 in
set_option maxRecDepth 100000 in
theorem tX2_readAll_J61 {z : ps_X} (C : ps_C z cX2_readAll 2 "PartSums$Reader") (Z : ps_Z z 8 343) {a1 : Int32} {u0 : Int32} {σ : ps_S}  {r : (Int32 × ps_S) ⊕ ((Int32 × ps_S))} (h : fX2_readAll_J61 a1 u0 σ = some r) (k : ps_k (pX2_readAll_S44 z ) (qX2_readAll_S44 z ) r) : ps_at z 2 61 [(0, .ref (z_ad z 36)), (1, .int a1)] [.int u0, .ref (z_ad z 36)] σ := by
  unfold fX2_readAll_J61 at h
  obtain ⟨q9, hq9, h⟩ := ps_bd h
  refine ps_callVI C Z (pc := 61) (As := [.int u0]) (k0 := 36) (mX2_readLine  hq9) (Cn := "PartSums$Reader") rfl tw_258 tw_260 tw_0 tw_68 tw_261 hdX2_readLine rfl rfl ⟨by decide, by decide⟩ (by decide) ps_o36 rfl rfl (Nat.le_of_ble_eq_true rfl) dX2_readAll_61 rfl ?_
  refine ps_if_eq C (pc := 64) 73 dX2_readAll_64 (by decide) (fun hc => ?_) (fun hc => ?_)
  · have h := ps_ift hc h
    obtain rfl := Option.some.inj h
    exact ps_sub [1] rfl k
  · have h := ps_iff hc h
    refine ps_iincL C (pc := 67) (zz := 1) (lw := fun x10 => [(1, .int x10), (0, .ref (z_ad z 36))]) dX2_readAll_67 1 rfl (by decide) (by decide) (fun _ => rfl) h (fun x10 h => ?_)
    refine ps_goto C (pc := 70) 44 dX2_readAll_70 (by decide) ?_
    obtain rfl := Option.some.inj h
    exact ps_sub [1, 0] rfl k
def fX2_readAll_S44  (a1 : Int32) (σ : ps_S) : Option ((Int32 × ps_S) ⊕ ((Int32 × ps_S))) :=
  (if (540 : Int32) ≤ a1 then some (.inr (a1, σ))
  else (if a1 = 0 then fX2_readAll_J61 a1 (1 : Int32) σ
  else fX2_readAll_J61 a1 (0 : Int32) σ))
set_option maxHeartbeats 4000000 in
set_option maxRecDepth 100000 in
theorem tX2_readAll_S44 {z : ps_X} (C : ps_C z cX2_readAll 2 "PartSums$Reader") (Z : ps_Z z 8 343)   (s : Int32 × ps_S) (r : (Int32 × ps_S) ⊕ ((Int32 × ps_S))) (h : fX2_readAll_S44  s.1 s.2 = some r) (k : ps_k (pX2_readAll_S44 z ) (qX2_readAll_S44 z ) r) : pX2_readAll_S44 z  s := by
  obtain ⟨a1, σ⟩ := s
  unfold fX2_readAll_S44 at h
  unfold pX2_readAll_S44
  refine ps_iload_n C (pc := 44) dX2_readAll_44 1 rfl ?_
  refine ps_sipush C (pc := 45) (v := 540) dX2_readAll_45 (by decide) ?_
  refine ps_icmp_ge C (pc := 48) 73 dX2_readAll_48 (by decide) (fun hc => ?_) (fun hc => ?_)
  · have h := ps_ift hc h
    obtain rfl := Option.some.inj h
    exact ps_sub [1] rfl k
  · have h := ps_iff hc h
    refine ps_aload_n C (pc := 51) dX2_readAll_51 0 rfl ?_
    refine ps_iload_n C (pc := 52) dX2_readAll_52 1 rfl ?_
    refine ps_if_ne C (pc := 53) 60 dX2_readAll_53 (by decide) (fun hc => ?_) (fun hc => ?_)
    · have h := ps_iff hc h
      refine ps_iconst C (pc := 60) (v := 0) dX2_readAll_60 (by decide) ?_
      exact ps_sub [0, 1] rfl (tX2_readAll_J61 C Z  h k)
    · have h := ps_ift hc h
      refine ps_iconst C (pc := 56) (v := 1) dX2_readAll_56 (by decide) ?_
      refine ps_goto C (pc := 57) 61 dX2_readAll_57 (by decide) ?_
      exact ps_sub [0, 1] rfl (tX2_readAll_J61 C Z  h k)
def fX2_readAll (σ : ps_S) : Option (Int32 × ps_S) :=
  (ps_let (ps_ui σ 36 2 (0 : Int32)) fun σ1 =>
  (ps_let (ps_ui σ1 36 4 (0 : Int32)) fun σ2 =>
  (ps_let (ps_ul σ2 36 5 (0 : Int64)) fun σ3 =>
  ((ps_lp (fun s => fX2_readAll_S17  s.1 s.2) 100000 ((0 : Int32), σ3)).bind fun e7 =>
  (ps_let (ps_ui e7 36 9 (0 : Int32)) fun σ8 =>
  ((ps_lp (fun s => fX2_readAll_S44  s.1 s.2) 100000 ((0 : Int32), σ8)).bind fun e11 =>
  some (e11.1, e11.2)))))))
set_option maxHeartbeats 4000000 in
set_option maxRecDepth 100000 in
theorem tX2_readAll {z : ps_X} (C : ps_C z cX2_readAll 2 "PartSums$Reader") (Z : ps_Z z 8 343) {σ : ps_S}  {r : Int32 × ps_S} (h : fX2_readAll σ = some r) (k : ps_KI z 2 cX2_readAll r.1 r.2) : ps_at z 2 0 [(0, .ref (z_ad z 36))] [] σ := by
  unfold fX2_readAll at h
  refine ps_aload_n C (pc := 0) dX2_readAll_0 0 rfl ?_
  refine ps_iconst C (pc := 1) (v := 0) dX2_readAll_1 (by decide) ?_
  refine pp_36_2 C (pc := 2) tw_157 dX2_readAll_2 h (fun σ1 h => ?_)
  refine ps_aload_n C (pc := 5) dX2_readAll_5 0 rfl ?_
  refine ps_iconst C (pc := 6) (v := 0) dX2_readAll_6 (by decide) ?_
  refine pp_36_4 C (pc := 7) tw_161 dX2_readAll_7 h (fun σ2 h => ?_)
  refine ps_aload_n C (pc := 10) dX2_readAll_10 0 rfl ?_
  refine ps_lconst C (pc := 11) (v := 0) dX2_readAll_11 (by decide) ?_
  refine pp_36_5 C (pc := 12) tw_163 dX2_readAll_12 h (fun σ3 h => ?_)
  refine ps_iconst C (pc := 15) (v := 0) dX2_readAll_15 (by decide) ?_
  refine ps_istore_n C (pc := 16) (lv' := [(1, .int (0 : Int32)), (0, .ref (z_ad z 36))]) dX2_readAll_16 (by decide) rfl ?_
  obtain ⟨e7, he7, h⟩ := ps_bd h
  refine ps_sub [1, 0] rfl ?_
  refine ps_loop (P := pX2_readAll_S17 z ) (K := qX2_readAll_S17 z ) (fun s r h k => tX2_readAll_S17 C Z   s r h k) _ _ _ he7 ?_
  unfold qX2_readAll_S17
  refine ps_aload_n C (pc := 37) dX2_readAll_37 0 rfl ?_
  refine ps_iconst C (pc := 38) (v := 0) dX2_readAll_38 (by decide) ?_
  refine pp_36_9 C (pc := 39) tw_169 dX2_readAll_39 h (fun σ8 h => ?_)
  refine ps_iconst C (pc := 42) (v := 0) dX2_readAll_42 (by decide) ?_
  refine ps_istore_n C (pc := 43) (lv' := [(1, .int (0 : Int32)), (0, .ref (z_ad z 36))]) dX2_readAll_43 (by decide) rfl ?_
  obtain ⟨e11, he11, h⟩ := ps_bd h
  refine ps_sub [1, 0] rfl ?_
  refine ps_loop (P := pX2_readAll_S44 z ) (K := qX2_readAll_S44 z ) (fun s r h k => tX2_readAll_S44 C Z   s r h k) _ _ _ he11 ?_
  unfold qX2_readAll_S44
  refine ps_iload_n C (pc := 73) dX2_readAll_73 0 rfl ?_
  obtain rfl := Option.some.inj h
  exact k _ _ dX2_readAll_74
def rmX2_readAll : Room := { frames := 8, cells := 0, slots := 0, locals := 343 }
theorem mX2_readAll {l : Launch} {E : ps_E} {σ : ps_S}  {r : Int32 × ps_S}  (h : fX2_readAll σ = some r) : ps_MI l yX2_readAll (ps_wm yX2_readAll cX2_readAll 2 (some .int)) rmX2_readAll [.ref (e_ad E 36)] E σ r.1 r.2 :=
  ps_metI yX2_readAll rmX2_readAll 2 (own := "PartSums$Reader") r.1 (by decide +kernel) rfl (Nat.le_of_ble_eq_true rfl) rfl (fun z e1 e2 e3 e4 e5 C k => by
    subst e5
    exact tX2_readAll C (ps_Zof e1 e3 e4)  h k)
theorem hdX2_readAll : yX2_readAll.cls ≠ "java/lang/invoke/MethodHandle" ∧ yX2_readAll.cls ≠ "java/lang/invoke/VarHandle" ∧ (parseMethodDescriptor yX2_readAll.desc).map (fun d => d.parameters.length) = some 0 := by decide +kernel
def fX4_feed (a1 : Int32) (a2 : Int32) (a3 : Int32) (a4 : Int32) (a5 : Int32) (σ : ps_S) : Option (Int32 × ps_S) :=
  ((fX2_hasRoom σ).bind fun q1 =>
  (if q1 = 0 then some ((-1 : Int32), σ)
  else ((fX2_take a1 σ).bind fun q2 =>
  ((fX2_take a2 q2).bind fun q3 =>
  ((fX2_take a3 q3).bind fun q4 =>
  ((fX2_take a4 q4).bind fun q5 =>
  ((fX2_take a5 q5).bind fun q6 =>
  some ((q6.1 36 1), q6))))))))
set_option maxHeartbeats 4000000 in
set_option maxRecDepth 100000 in
theorem tX4_feed {z : ps_X} (C : ps_C z cX4_feed 6 "PartSums") (Z : ps_Z z 1 22) {a1 : Int32} {a2 : Int32} {a3 : Int32} {a4 : Int32} {a5 : Int32} {σ : ps_S}  {r : Int32 × ps_S} (h : fX4_feed a1 a2 a3 a4 a5 σ = some r) (k : ps_KI z 6 cX4_feed r.1 r.2) : ps_at z 6 0 [(0, .ref (z_ad z 0)), (1, .int a1), (2, .int a2), (3, .int a3), (4, .int a4), (5, .int a5)] [] σ := by
  unfold fX4_feed at h
  refine ps_aload_n C (pc := 0) dX4_feed_0 0 rfl ?_
  refine pg_0_4 C (pc := 1) tw_210 dX4_feed_1 ?_
  obtain ⟨q1, hq1, h⟩ := ps_bd h
  refine ps_callVI C Z (pc := 4) (As := []) (k0 := 36) (mX2_hasRoom  hq1) (Cn := "PartSums$Reader") rfl tw_238 tw_239 tw_240 tw_68 tw_241 hdX2_hasRoom rfl rfl ⟨by decide, by decide⟩ (by decide) ps_o36 rfl rfl (Nat.le_of_ble_eq_true rfl) dX4_feed_4 rfl ?_
  refine ps_if_ne C (pc := 7) 12 dX4_feed_7 (by decide) (fun hc => ?_) (fun hc => ?_)
  · have h := ps_iff hc h
    refine ps_aload_n C (pc := 12) dX4_feed_12 0 rfl ?_
    refine pg_0_4 C (pc := 13) tw_210 dX4_feed_13 ?_
    refine ps_iload_n C (pc := 16) dX4_feed_16 1 rfl ?_
    obtain ⟨q2, hq2, h⟩ := ps_bd h
    refine ps_callVV C Z (pc := 17) (As := [.int a1]) (k0 := 36) (mX2_take  hq2) (Cn := "PartSums$Reader") rfl tw_242 tw_243 tw_244 tw_68 tw_245 hdX2_take rfl rfl ⟨by decide, by decide⟩ (by decide) ps_o36 rfl rfl (Nat.le_of_ble_eq_true rfl) dX4_feed_17 rfl ?_
    refine ps_aload_n C (pc := 20) dX4_feed_20 0 rfl ?_
    refine pg_0_4 C (pc := 21) tw_210 dX4_feed_21 ?_
    refine ps_iload_n C (pc := 24) dX4_feed_24 2 rfl ?_
    obtain ⟨q3, hq3, h⟩ := ps_bd h
    refine ps_callVV C Z (pc := 25) (As := [.int a2]) (k0 := 36) (mX2_take  hq3) (Cn := "PartSums$Reader") rfl tw_242 tw_243 tw_244 tw_68 tw_245 hdX2_take rfl rfl ⟨by decide, by decide⟩ (by decide) ps_o36 rfl rfl (Nat.le_of_ble_eq_true rfl) dX4_feed_25 rfl ?_
    refine ps_aload_n C (pc := 28) dX4_feed_28 0 rfl ?_
    refine pg_0_4 C (pc := 29) tw_210 dX4_feed_29 ?_
    refine ps_iload_n C (pc := 32) dX4_feed_32 3 rfl ?_
    obtain ⟨q4, hq4, h⟩ := ps_bd h
    refine ps_callVV C Z (pc := 33) (As := [.int a3]) (k0 := 36) (mX2_take  hq4) (Cn := "PartSums$Reader") rfl tw_242 tw_243 tw_244 tw_68 tw_245 hdX2_take rfl rfl ⟨by decide, by decide⟩ (by decide) ps_o36 rfl rfl (Nat.le_of_ble_eq_true rfl) dX4_feed_33 rfl ?_
    refine ps_aload_n C (pc := 36) dX4_feed_36 0 rfl ?_
    refine pg_0_4 C (pc := 37) tw_210 dX4_feed_37 ?_
    refine ps_iload C (pc := 40) dX4_feed_40 4 rfl ?_
    obtain ⟨q5, hq5, h⟩ := ps_bd h
    refine ps_callVV C Z (pc := 42) (As := [.int a4]) (k0 := 36) (mX2_take  hq5) (Cn := "PartSums$Reader") rfl tw_242 tw_243 tw_244 tw_68 tw_245 hdX2_take rfl rfl ⟨by decide, by decide⟩ (by decide) ps_o36 rfl rfl (Nat.le_of_ble_eq_true rfl) dX4_feed_42 rfl ?_
    refine ps_aload_n C (pc := 45) dX4_feed_45 0 rfl ?_
    refine pg_0_4 C (pc := 46) tw_210 dX4_feed_46 ?_
    refine ps_iload C (pc := 49) dX4_feed_49 5 rfl ?_
    obtain ⟨q6, hq6, h⟩ := ps_bd h
    refine ps_callVV C Z (pc := 51) (As := [.int a5]) (k0 := 36) (mX2_take  hq6) (Cn := "PartSums$Reader") rfl tw_242 tw_243 tw_244 tw_68 tw_245 hdX2_take rfl rfl ⟨by decide, by decide⟩ (by decide) ps_o36 rfl rfl (Nat.le_of_ble_eq_true rfl) dX4_feed_51 rfl ?_
    refine ps_aload_n C (pc := 54) dX4_feed_54 0 rfl ?_
    refine pg_0_4 C (pc := 55) tw_210 dX4_feed_55 ?_
    refine pg_36_1 C (pc := 58) tw_156 dX4_feed_58 ?_
    obtain rfl := Option.some.inj h
    exact k _ _ dX4_feed_61
  · have h := ps_ift hc h
    refine ps_iconst C (pc := 10) (v := -1) dX4_feed_10 (by decide) ?_
    obtain rfl := Option.some.inj h
    exact k _ _ dX4_feed_11
def rmX4_feed : Room := { frames := 1, cells := 0, slots := 0, locals := 22 }
theorem mX4_feed {l : Launch} {E : ps_E} {σ : ps_S} {a1 : Int32} {a2 : Int32} {a3 : Int32} {a4 : Int32} {a5 : Int32} {r : Int32 × ps_S}  (h : fX4_feed a1 a2 a3 a4 a5 σ = some r) : ps_MI l yX4_feed (ps_wm yX4_feed cX4_feed 6 (some .int)) rmX4_feed [.ref (e_ad E 0), .int a1, .int a2, .int a3, .int a4, .int a5] E σ r.1 r.2 :=
  ps_metI yX4_feed rmX4_feed 6 (own := "PartSums") r.1 (by decide +kernel) rfl (Nat.le_of_ble_eq_true rfl) rfl (fun z e1 e2 e3 e4 e5 C k => by
    subst e5
    exact tX4_feed C (ps_Zof e1 e3 e4)  h k)
theorem hdX4_feed : yX4_feed.cls ≠ "java/lang/invoke/MethodHandle" ∧ yX4_feed.cls ≠ "java/lang/invoke/VarHandle" ∧ (parseMethodDescriptor yX4_feed.desc).map (fun d => d.parameters.length) = some 5 := by decide +kernel
def fX4_text (σ : ps_S) : Option (Int32 × ps_S) :=
  ((fX2_readAll σ).bind fun q1 =>
  (ps_let q1.1 fun x2 =>
  (ps_let (ps_ui q1.2 36 1 (0 : Int32)) fun σ3 =>
  (if (σ3.1 36 2) = 0 then ((fX1_begin (σ3.1 36 4) (σ3.2 36 5) 38 σ3).bind fun q4 =>
  ((fX0_forget q4).bind fun q5 =>
  some (x2, q5)))
  else some (((-1 : Int32) - (σ3.1 36 3)), σ3)))))
set_option maxHeartbeats 4000000 in
set_option maxRecDepth 100000 in
theorem tX4_text {z : ps_X} (C : ps_C z cX4_text 2 "PartSums") (Z : ps_Z z 9 364) {σ : ps_S}  {r : Int32 × ps_S} (h : fX4_text σ = some r) (k : ps_KI z 2 cX4_text r.1 r.2) : ps_at z 2 0 [(0, .ref (z_ad z 0))] [] σ := by
  unfold fX4_text at h
  refine ps_aload_n C (pc := 0) dX4_text_0 0 rfl ?_
  refine pg_0_4 C (pc := 1) tw_210 dX4_text_1 ?_
  obtain ⟨q1, hq1, h⟩ := ps_bd h
  refine ps_callVI C Z (pc := 4) (As := []) (k0 := 36) (mX2_readAll  hq1) (Cn := "PartSums$Reader") rfl tw_254 tw_255 tw_256 tw_68 tw_257 hdX2_readAll rfl rfl ⟨by decide, by decide⟩ (by decide) ps_o36 rfl rfl (Nat.le_of_ble_eq_true rfl) dX4_text_4 rfl ?_
  refine ps_istoreL_n C (pc := 7) (lw := fun x2 => [(1, .int x2), (0, .ref (z_ad z 0))]) dX4_text_7 (by decide) (fun _ => rfl) h (fun x2 h => ?_)
  refine ps_aload_n C (pc := 8) dX4_text_8 1 rfl ?_
  refine pg_0_4 C (pc := 9) tw_210 dX4_text_9 ?_
  refine ps_iconst C (pc := 12) (v := 0) dX4_text_12 (by decide) ?_
  refine pp_36_1 C (pc := 13) tw_156 dX4_text_13 h (fun σ3 h => ?_)
  refine ps_aload_n C (pc := 16) dX4_text_16 1 rfl ?_
  refine pg_0_4 C (pc := 17) tw_210 dX4_text_17 ?_
  refine pg_36_2 C (pc := 20) tw_158 dX4_text_20 ?_
  refine ps_if_eq C (pc := 23) 36 dX4_text_23 (by decide) (fun hc => ?_) (fun hc => ?_)
  · have h := ps_ift hc h
    refine ps_aload_n C (pc := 36) dX4_text_36 1 rfl ?_
    refine pg_0_0 C (pc := 37) tw_206 dX4_text_37 ?_
    refine ps_aload_n C (pc := 40) dX4_text_40 1 rfl ?_
    refine pg_0_4 C (pc := 41) tw_210 dX4_text_41 ?_
    refine pg_36_4 C (pc := 44) tw_162 dX4_text_44 ?_
    refine ps_aload_n C (pc := 47) dX4_text_47 1 rfl ?_
    refine pg_0_4 C (pc := 48) tw_210 dX4_text_48 ?_
    refine pg_36_5 C (pc := 51) tw_164 dX4_text_51 ?_
    refine ps_aload_n C (pc := 54) dX4_text_54 1 rfl ?_
    refine pg_0_4 C (pc := 55) tw_210 dX4_text_55 ?_
    refine pg_36_6 C (pc := 58) tw_166 dX4_text_58 ?_
    obtain ⟨q4, hq4, h⟩ := ps_bd h
    refine ps_callVV C Z (pc := 61) (As := [.int (σ3.1 36 4), .long (σ3.2 36 5), .ref (z_ad z 38)]) (k0 := 1) (mX1_begin (by rfl) hq4) (Cn := "PartSums$Ground") rfl tw_367 tw_368 tw_369 tw_66 tw_370 hdX1_begin rfl rfl ⟨by decide, by decide⟩ (by decide) ps_o1 rfl rfl (Nat.le_of_ble_eq_true rfl) dX4_text_61 rfl ?_
    refine ps_aload_n C (pc := 64) dX4_text_64 1 rfl ?_
    refine pg_0_3 C (pc := 65) tw_209 dX4_text_65 ?_
    obtain ⟨q5, hq5, h⟩ := ps_bd h
    refine ps_callVV C Z (pc := 68) (As := []) (k0 := 22) (mX0_forget  hq5) (Cn := "PartSums$Acts") rfl tw_374 tw_375 tw_376 tw_67 tw_377 hdX0_forget rfl rfl ⟨by decide, by decide⟩ (by decide) ps_o22 rfl rfl (Nat.le_of_ble_eq_true rfl) dX4_text_68 rfl ?_
    refine ps_iload_n C (pc := 71) dX4_text_71 0 rfl ?_
    obtain rfl := Option.some.inj h
    exact k _ _ dX4_text_72
  · have h := ps_iff hc h
    refine ps_iconst C (pc := 26) (v := -1) dX4_text_26 (by decide) ?_
    refine ps_aload_n C (pc := 27) dX4_text_27 1 rfl ?_
    refine pg_0_4 C (pc := 28) tw_210 dX4_text_28 ?_
    refine pg_36_3 C (pc := 31) tw_159 dX4_text_31 ?_
    refine ps_isub C (pc := 34) dX4_text_34 ?_
    obtain rfl := Option.some.inj h
    exact k _ _ dX4_text_35
def rmX4_text : Room := { frames := 9, cells := 0, slots := 0, locals := 364 }
theorem mX4_text {l : Launch} {E : ps_E} {σ : ps_S}  {r : Int32 × ps_S}  (h : fX4_text σ = some r) : ps_MI l yX4_text (ps_wm yX4_text cX4_text 2 (some .int)) rmX4_text [.ref (e_ad E 0)] E σ r.1 r.2 :=
  ps_metI yX4_text rmX4_text 2 (own := "PartSums") r.1 (by decide +kernel) rfl (Nat.le_of_ble_eq_true rfl) rfl (fun z e1 e2 e3 e4 e5 C k => by
    subst e5
    exact tX4_text C (ps_Zof e1 e3 e4)  h k)
theorem hdX4_text : yX4_text.cls ≠ "java/lang/invoke/MethodHandle" ∧ yX4_text.cls ≠ "java/lang/invoke/VarHandle" ∧ (parseMethodDescriptor yX4_text.desc).map (fun d => d.parameters.length) = some 0 := by decide +kernel
