def fX5_things (σ : ps_S) : Option (Int32) :=
  (ps_ck (0 : Int32) 1289 (some (σ.1 47 (Int32.toNatClampNeg (0 : Int32)))))
set_option maxHeartbeats 4000000 in
set_option maxRecDepth 100000 in
theorem tX5_things {z : ps_X} (C : ps_C z cX5_things 1 "PartSumsModel") (Z : ps_Z z 0 0) {σ : ps_S}  {r : Int32} (h : fX5_things σ = some r) (k : ps_KI z 1 cX5_things r σ) : ps_at z 1 0 [(0, .ref (z_ad z 45))] [] σ := by
  unfold fX5_things at h
  refine ps_aload_n C (pc := 0) dX5_things_0 0 rfl ?_
  refine pg_45_10 C (pc := 1) tw_806 dX5_things_1 ?_
  refine ps_iconst C (pc := 4) (v := 0) dX5_things_4 (by decide) ?_
  obtain ⟨hi1, h⟩ := ps_ck_s h
  refine ps_iald C (pc := 5) 47 rfl rfl hi1 dX5_things_5 ?_
  obtain rfl := Option.some.inj h
  exact k _ _ dX5_things_6
def rmX5_things : Room := { frames := 0, cells := 0, slots := 0, locals := 0 }
theorem mX5_things {l : Launch} {E : ps_E} {σ : ps_S}  {r : Int32}  (h : fX5_things σ = some r) : ps_MI l yX5_things (ps_wm yX5_things cX5_things 1 (some .int)) rmX5_things [.ref (e_ad E 45)] E σ r σ :=
  ps_metI yX5_things rmX5_things 1 (own := "PartSumsModel") r (by decide +kernel) rfl (Nat.le_of_ble_eq_true rfl) rfl (fun z e1 e2 e3 e4 e5 C k => by
    subst e5
    exact tX5_things C (ps_Zof e1 e3 e4)  h k)
theorem hdX5_things : yX5_things.cls ≠ "java/lang/invoke/MethodHandle" ∧ yX5_things.cls ≠ "java/lang/invoke/VarHandle" ∧ (parseMethodDescriptor yX5_things.desc).map (fun d => d.parameters.length) = some 0 := by decide +kernel
def fX5_all (σ : ps_S) : Option (Int32) :=
  ((fX5_things σ).bind fun q1 =>
  some (((1 : Int32) <<< (q1 &&& 31)) - (1 : Int32)))
set_option maxHeartbeats 4000000 in
set_option maxRecDepth 100000 in
theorem tX5_all {z : ps_X} (C : ps_C z cX5_all 1 "PartSumsModel") (Z : ps_Z z 1 20) {σ : ps_S}  {r : Int32} (h : fX5_all σ = some r) (k : ps_KI z 1 cX5_all r σ) : ps_at z 1 0 [(0, .ref (z_ad z 45))] [] σ := by
  unfold fX5_all at h
  refine ps_iconst C (pc := 0) (v := 1) dX5_all_0 (by decide) ?_
  refine ps_aload_n C (pc := 1) dX5_all_1 0 rfl ?_
  obtain ⟨q1, hq1, h⟩ := ps_bd h
  refine ps_callVI C Z (pc := 2) (As := []) (k0 := 45) (mX5_things  hq1) (Cn := "PartSumsModel") rfl tw_946 tw_948 tw_36 tw_70 tw_949 hdX5_things rfl rfl ⟨by decide, by decide⟩ (by decide) ps_o45 rfl rfl (Nat.le_of_ble_eq_true rfl) dX5_all_2 rfl ?_
  refine ps_ishl C (pc := 5) dX5_all_5 ?_
  refine ps_iconst C (pc := 6) (v := 1) dX5_all_6 (by decide) ?_
  refine ps_isub C (pc := 7) dX5_all_7 ?_
  obtain rfl := Option.some.inj h
  exact k _ _ dX5_all_8
def rmX5_all : Room := { frames := 1, cells := 0, slots := 0, locals := 20 }
theorem mX5_all {l : Launch} {E : ps_E} {σ : ps_S}  {r : Int32}  (h : fX5_all σ = some r) : ps_MI l yX5_all (ps_wm yX5_all cX5_all 1 (some .int)) rmX5_all [.ref (e_ad E 45)] E σ r σ :=
  ps_metI yX5_all rmX5_all 1 (own := "PartSumsModel") r (by decide +kernel) rfl (Nat.le_of_ble_eq_true rfl) rfl (fun z e1 e2 e3 e4 e5 C k => by
    subst e5
    exact tX5_all C (ps_Zof e1 e3 e4)  h k)
theorem hdX5_all : yX5_all.cls ≠ "java/lang/invoke/MethodHandle" ∧ yX5_all.cls ≠ "java/lang/invoke/VarHandle" ∧ (parseMethodDescriptor yX5_all.desc).map (fun d => d.parameters.length) = some 0 := by decide +kernel
def fX5_isSet (a1 : Int32) (σ : ps_S) : Option (Int32) :=
  ((fX5_things σ).bind fun q1 =>
  (if q1 ≤ 0 then some (0 : Int32)
  else ((fX5_all σ).bind fun q2 =>
  ((fX5_isIn a1 (0 : Int32) q2).bind fun q3 =>
  (if q3 = 0 then some (0 : Int32)
  else some (1 : Int32))))))
set_option maxHeartbeats 4000000 in
set_option maxRecDepth 100000 in
theorem tX5_isSet {z : ps_X} (C : ps_C z cX5_isSet 2 "PartSumsModel") (Z : ps_Z z 2 40) {a1 : Int32} {σ : ps_S}  {r : Int32} (h : fX5_isSet a1 σ = some r) (k : ps_KZ z 2 cX5_isSet r σ) : ps_at z 2 0 [(0, .ref (z_ad z 45)), (1, .int a1)] [] σ := by
  unfold fX5_isSet at h
  refine ps_aload_n C (pc := 0) dX5_isSet_0 0 rfl ?_
  obtain ⟨q1, hq1, h⟩ := ps_bd h
  refine ps_callVI C Z (pc := 1) (As := []) (k0 := 45) (mX5_things  hq1) (Cn := "PartSumsModel") rfl tw_946 tw_948 tw_36 tw_70 tw_949 hdX5_things rfl rfl ⟨by decide, by decide⟩ (by decide) ps_o45 rfl rfl (Nat.le_of_ble_eq_true rfl) dX5_isSet_1 rfl ?_
  refine ps_if_le C (pc := 4) 23 dX5_isSet_4 (by decide) (fun hc => ?_) (fun hc => ?_)
  · have h := ps_ift hc h
    refine ps_iconst C (pc := 23) (v := 0) dX5_isSet_23 (by decide) ?_
    obtain rfl := Option.some.inj h
    exact k _ _ (Or.inl rfl) dX5_isSet_24
  · have h := ps_iff hc h
    refine ps_iload_n C (pc := 7) dX5_isSet_7 1 rfl ?_
    refine ps_iconst C (pc := 8) (v := 0) dX5_isSet_8 (by decide) ?_
    refine ps_aload_n C (pc := 9) dX5_isSet_9 0 rfl ?_
    obtain ⟨q2, hq2, h⟩ := ps_bd h
    refine ps_callVI C Z (pc := 10) (As := []) (k0 := 45) (mX5_all  hq2) (Cn := "PartSumsModel") rfl tw_954 tw_956 tw_38 tw_70 tw_957 hdX5_all rfl rfl ⟨by decide, by decide⟩ (by decide) ps_o45 rfl rfl (Nat.le_of_ble_eq_true rfl) dX5_isSet_10 rfl ?_
    obtain ⟨q3, hq3, h⟩ := ps_bd h
    refine ps_callSI C Z (pc := 13) (As := [.int a1, .int (0 : Int32), .int q2]) (mX5_isIn  hq3) tw_904 tw_905 tw_70 tw_906 hdX5_isIn rfl rfl ⟨by decide, by decide⟩ rfl (Nat.le_of_ble_eq_true rfl) dX5_isSet_13 rfl ?_
    refine ps_if_eq C (pc := 16) 23 dX5_isSet_16 (by decide) (fun hc => ?_) (fun hc => ?_)
    · have h := ps_ift hc h
      refine ps_iconst C (pc := 23) (v := 0) dX5_isSet_23 (by decide) ?_
      obtain rfl := Option.some.inj h
      exact k _ _ (Or.inl rfl) dX5_isSet_24
    · have h := ps_iff hc h
      refine ps_iconst C (pc := 19) (v := 1) dX5_isSet_19 (by decide) ?_
      refine ps_goto C (pc := 20) 24 dX5_isSet_20 (by decide) ?_
      obtain rfl := Option.some.inj h
      exact k _ _ (Or.inr rfl) dX5_isSet_24
def rmX5_isSet : Room := { frames := 2, cells := 0, slots := 0, locals := 40 }
theorem mX5_isSet {l : Launch} {E : ps_E} {σ : ps_S} {a1 : Int32} {r : Int32}  (h : fX5_isSet a1 σ = some r) : ps_MI l yX5_isSet (ps_wm yX5_isSet cX5_isSet 2 (some .boolean)) rmX5_isSet [.ref (e_ad E 45), .int a1] E σ r σ :=
  ps_metZ yX5_isSet rmX5_isSet 2 (own := "PartSumsModel") r (by decide +kernel) rfl (Nat.le_of_ble_eq_true rfl) rfl (fun z e1 e2 e3 e4 e5 C k => by
    subst e5
    exact tX5_isSet C (ps_Zof e1 e3 e4)  h k)
theorem hdX5_isSet : yX5_isSet.cls ≠ "java/lang/invoke/MethodHandle" ∧ yX5_isSet.cls ≠ "java/lang/invoke/VarHandle" ∧ (parseMethodDescriptor yX5_isSet.desc).map (fun d => d.parameters.length) = some 1 := by decide +kernel
def fX5_isThing (a1 : Int32) (σ : ps_S) : Option (Int32) :=
  ((fX5_things σ).bind fun q1 =>
  ((fX5_isIn a1 (0 : Int32) (q1 - (1 : Int32))).bind fun q2 =>
  (ps_cb q2 (some q2))))
set_option maxHeartbeats 4000000 in
set_option maxRecDepth 100000 in
theorem tX5_isThing {z : ps_X} (C : ps_C z cX5_isThing 2 "PartSumsModel") (Z : ps_Z z 1 22) {a1 : Int32} {σ : ps_S}  {r : Int32} (h : fX5_isThing a1 σ = some r) (k : ps_KZ z 2 cX5_isThing r σ) : ps_at z 2 0 [(0, .ref (z_ad z 45)), (1, .int a1)] [] σ := by
  unfold fX5_isThing at h
  refine ps_iload_n C (pc := 0) dX5_isThing_0 1 rfl ?_
  refine ps_iconst C (pc := 1) (v := 0) dX5_isThing_1 (by decide) ?_
  refine ps_aload_n C (pc := 2) dX5_isThing_2 0 rfl ?_
  obtain ⟨q1, hq1, h⟩ := ps_bd h
  refine ps_callVI C Z (pc := 3) (As := []) (k0 := 45) (mX5_things  hq1) (Cn := "PartSumsModel") rfl tw_946 tw_948 tw_36 tw_70 tw_949 hdX5_things rfl rfl ⟨by decide, by decide⟩ (by decide) ps_o45 rfl rfl (Nat.le_of_ble_eq_true rfl) dX5_isThing_3 rfl ?_
  refine ps_iconst C (pc := 6) (v := 1) dX5_isThing_6 (by decide) ?_
  refine ps_isub C (pc := 7) dX5_isThing_7 ?_
  obtain ⟨q2, hq2, h⟩ := ps_bd h
  refine ps_callSI C Z (pc := 8) (As := [.int a1, .int (0 : Int32), .int (q1 - (1 : Int32))]) (mX5_isIn  hq2) tw_904 tw_905 tw_70 tw_906 hdX5_isIn rfl rfl ⟨by decide, by decide⟩ rfl (Nat.le_of_ble_eq_true rfl) dX5_isThing_8 rfl ?_
  obtain ⟨hb3, h⟩ := ps_cb_s h
  obtain rfl := Option.some.inj h
  exact k _ _ hb3 dX5_isThing_11
def rmX5_isThing : Room := { frames := 1, cells := 0, slots := 0, locals := 22 }
theorem mX5_isThing {l : Launch} {E : ps_E} {σ : ps_S} {a1 : Int32} {r : Int32}  (h : fX5_isThing a1 σ = some r) : ps_MI l yX5_isThing (ps_wm yX5_isThing cX5_isThing 2 (some .boolean)) rmX5_isThing [.ref (e_ad E 45), .int a1] E σ r σ :=
  ps_metZ yX5_isThing rmX5_isThing 2 (own := "PartSumsModel") r (by decide +kernel) rfl (Nat.le_of_ble_eq_true rfl) rfl (fun z e1 e2 e3 e4 e5 C k => by
    subst e5
    exact tX5_isThing C (ps_Zof e1 e3 e4)  h k)
theorem hdX5_isThing : yX5_isThing.cls ≠ "java/lang/invoke/MethodHandle" ∧ yX5_isThing.cls ≠ "java/lang/invoke/VarHandle" ∧ (parseMethodDescriptor yX5_isThing.desc).map (fun d => d.parameters.length) = some 1 := by decide +kernel
def fX5_isRow (a1 : Int32) (σ : ps_S) : Option (Int32) :=
  ((fX5_things σ).bind fun q1 =>
  (if q1 ≤ 0 then some (0 : Int32)
  else ((fX5_isIn a1 (0 : Int32) (3 : Int32)).bind fun q2 =>
  (if q2 = 0 then some (0 : Int32)
  else some (1 : Int32)))))
set_option maxHeartbeats 4000000 in
set_option maxRecDepth 100000 in
theorem tX5_isRow {z : ps_X} (C : ps_C z cX5_isRow 2 "PartSumsModel") (Z : ps_Z z 1 22) {a1 : Int32} {σ : ps_S}  {r : Int32} (h : fX5_isRow a1 σ = some r) (k : ps_KZ z 2 cX5_isRow r σ) : ps_at z 2 0 [(0, .ref (z_ad z 45)), (1, .int a1)] [] σ := by
  unfold fX5_isRow at h
  refine ps_aload_n C (pc := 0) dX5_isRow_0 0 rfl ?_
  obtain ⟨q1, hq1, h⟩ := ps_bd h
  refine ps_callVI C Z (pc := 1) (As := []) (k0 := 45) (mX5_things  hq1) (Cn := "PartSumsModel") rfl tw_946 tw_948 tw_36 tw_70 tw_949 hdX5_things rfl rfl ⟨by decide, by decide⟩ (by decide) ps_o45 rfl rfl (Nat.le_of_ble_eq_true rfl) dX5_isRow_1 rfl ?_
  refine ps_if_le C (pc := 4) 20 dX5_isRow_4 (by decide) (fun hc => ?_) (fun hc => ?_)
  · have h := ps_ift hc h
    refine ps_iconst C (pc := 20) (v := 0) dX5_isRow_20 (by decide) ?_
    obtain rfl := Option.some.inj h
    exact k _ _ (Or.inl rfl) dX5_isRow_21
  · have h := ps_iff hc h
    refine ps_iload_n C (pc := 7) dX5_isRow_7 1 rfl ?_
    refine ps_iconst C (pc := 8) (v := 0) dX5_isRow_8 (by decide) ?_
    refine ps_iconst C (pc := 9) (v := 3) dX5_isRow_9 (by decide) ?_
    obtain ⟨q2, hq2, h⟩ := ps_bd h
    refine ps_callSI C Z (pc := 10) (As := [.int a1, .int (0 : Int32), .int (3 : Int32)]) (mX5_isIn  hq2) tw_904 tw_905 tw_70 tw_906 hdX5_isIn rfl rfl ⟨by decide, by decide⟩ rfl (Nat.le_of_ble_eq_true rfl) dX5_isRow_10 rfl ?_
    refine ps_if_eq C (pc := 13) 20 dX5_isRow_13 (by decide) (fun hc => ?_) (fun hc => ?_)
    · have h := ps_ift hc h
      refine ps_iconst C (pc := 20) (v := 0) dX5_isRow_20 (by decide) ?_
      obtain rfl := Option.some.inj h
      exact k _ _ (Or.inl rfl) dX5_isRow_21
    · have h := ps_iff hc h
      refine ps_iconst C (pc := 16) (v := 1) dX5_isRow_16 (by decide) ?_
      refine ps_goto C (pc := 17) 21 dX5_isRow_17 (by decide) ?_
      obtain rfl := Option.some.inj h
      exact k _ _ (Or.inr rfl) dX5_isRow_21
def rmX5_isRow : Room := { frames := 1, cells := 0, slots := 0, locals := 22 }
theorem mX5_isRow {l : Launch} {E : ps_E} {σ : ps_S} {a1 : Int32} {r : Int32}  (h : fX5_isRow a1 σ = some r) : ps_MI l yX5_isRow (ps_wm yX5_isRow cX5_isRow 2 (some .boolean)) rmX5_isRow [.ref (e_ad E 45), .int a1] E σ r σ :=
  ps_metZ yX5_isRow rmX5_isRow 2 (own := "PartSumsModel") r (by decide +kernel) rfl (Nat.le_of_ble_eq_true rfl) rfl (fun z e1 e2 e3 e4 e5 C k => by
    subst e5
    exact tX5_isRow C (ps_Zof e1 e3 e4)  h k)
theorem hdX5_isRow : yX5_isRow.cls ≠ "java/lang/invoke/MethodHandle" ∧ yX5_isRow.cls ≠ "java/lang/invoke/VarHandle" ∧ (parseMethodDescriptor yX5_isRow.desc).map (fun d => d.parameters.length) = some 1 := by decide +kernel
def pX5_told_S4 (z : ps_X)  (σ : ps_S) (s : Int32 × Int32) : Prop := ps_at z 3 4 [(0, .ref (z_ad z 45)), (1, .int s.1), (2, .int s.2)] [] σ
def qX5_told_S4 (z : ps_X)  (σ : ps_S) (x : (Int32)) : Prop := match x with | y => ps_at z 3 31 [(1, .int y)] [] σ
def fX5_told_J25 (a1 : Int32) (a2 : Int32) (σ : ps_S) : Option ((Int32 × Int32) ⊕ ((Int32))) :=
  (ps_let (a2 + (1 : Int32)) fun x2 =>
  some (.inl (a1, x2)))
set_option maxHeartbeats 4000000 in
set_option maxRecDepth 100000 in
theorem tX5_told_J25 {z : ps_X} (C : ps_C z cX5_told 3 "PartSumsModel") (Z : ps_Z z 0 0) {a1 : Int32} {a2 : Int32} {σ : ps_S}  {r : (Int32 × Int32) ⊕ ((Int32))} (h : fX5_told_J25 a1 a2 σ = some r) (k : ps_k (pX5_told_S4 z σ) (qX5_told_S4 z σ) r) : ps_at z 3 25 [(0, .ref (z_ad z 45)), (1, .int a1), (2, .int a2)] [] σ := by
  unfold fX5_told_J25 at h
  refine ps_iincL C (pc := 25) (zz := 1) (lw := fun x2 => [(2, .int x2), (0, .ref (z_ad z 45)), (1, .int a1)]) dX5_told_25 2 rfl (by decide) (by decide) (fun _ => rfl) h (fun x2 h => ?_)
  refine ps_goto C (pc := 28) 4 dX5_told_28 (by decide) ?_
  obtain rfl := Option.some.inj h
  exact ps_sub [1, 2, 0] rfl k
def fX5_told_S4  (σ : ps_S) (a1 : Int32) (a2 : Int32) : Option ((Int32 × Int32) ⊕ ((Int32))) :=
  (if (256 : Int32) ≤ a2 then some (.inr a1)
  else (ps_ck ((1 : Int32) + a2) 1289 ((if (σ.1 47 (Int32.toNatClampNeg ((1 : Int32) + a2))) ≤ 0 then fX5_told_J25 a1 a2 σ
  else (ps_let (a1 + (1 : Int32)) fun x3 =>
  fX5_told_J25 x3 a2 σ)))))
set_option maxHeartbeats 4000000 in
set_option maxRecDepth 100000 in
theorem tX5_told_S4 {z : ps_X} (C : ps_C z cX5_told 3 "PartSumsModel") (Z : ps_Z z 0 0)  (σ : ps_S)  (s : Int32 × Int32) (r : (Int32 × Int32) ⊕ ((Int32))) (h : fX5_told_S4  σ s.1 s.2 = some r) (k : ps_k (pX5_told_S4 z σ) (qX5_told_S4 z σ) r) : pX5_told_S4 z σ s := by
  obtain ⟨a1, a2⟩ := s
  unfold fX5_told_S4 at h
  unfold pX5_told_S4
  refine ps_iload_n C (pc := 4) dX5_told_4 2 rfl ?_
  refine ps_sipush C (pc := 5) (v := 256) dX5_told_5 (by decide) ?_
  refine ps_icmp_ge C (pc := 8) 31 dX5_told_8 (by decide) (fun hc => ?_) (fun hc => ?_)
  · have h := ps_ift hc h
    obtain rfl := Option.some.inj h
    exact ps_sub [1] rfl k
  · have h := ps_iff hc h
    refine ps_aload_n C (pc := 11) dX5_told_11 0 rfl ?_
    refine pg_45_10 C (pc := 12) tw_806 dX5_told_12 ?_
    refine ps_iconst C (pc := 15) (v := 1) dX5_told_15 (by decide) ?_
    refine ps_iload_n C (pc := 16) dX5_told_16 2 rfl ?_
    refine ps_iadd C (pc := 17) dX5_told_17 ?_
    obtain ⟨hi1, h⟩ := ps_ck_s h
    refine ps_iald C (pc := 18) 47 rfl rfl hi1 dX5_told_18 ?_
    refine ps_if_le C (pc := 19) 25 dX5_told_19 (by decide) (fun hc => ?_) (fun hc => ?_)
    · have h := ps_ift hc h
      exact ps_sub [0, 1, 2] rfl (tX5_told_J25 C Z  h k)
    · have h := ps_iff hc h
      refine ps_iincL C (pc := 22) (zz := 1) (lw := fun x3 => [(1, .int x3), (0, .ref (z_ad z 45)), (2, .int a2)]) dX5_told_22 1 rfl (by decide) (by decide) (fun _ => rfl) h (fun x3 h => ?_)
      exact ps_sub [1, 0, 2] rfl (tX5_told_J25 C Z  h k)
def fX5_told (σ : ps_S) : Option (Int32) :=
  ((ps_lp (fun s => fX5_told_S4 σ s.1 s.2) 100000 ((0 : Int32), (0 : Int32))).bind fun e4 =>
  some e4)
set_option maxHeartbeats 4000000 in
set_option maxRecDepth 100000 in
theorem tX5_told {z : ps_X} (C : ps_C z cX5_told 3 "PartSumsModel") (Z : ps_Z z 0 0) {σ : ps_S}  {r : Int32} (h : fX5_told σ = some r) (k : ps_KI z 3 cX5_told r σ) : ps_at z 3 0 [(0, .ref (z_ad z 45))] [] σ := by
  unfold fX5_told at h
  refine ps_iconst C (pc := 0) (v := 0) dX5_told_0 (by decide) ?_
  refine ps_istore_n C (pc := 1) (lv' := [(1, .int (0 : Int32)), (0, .ref (z_ad z 45))]) dX5_told_1 (by decide) rfl ?_
  refine ps_iconst C (pc := 2) (v := 0) dX5_told_2 (by decide) ?_
  refine ps_istore_n C (pc := 3) (lv' := [(2, .int (0 : Int32)), (1, .int (0 : Int32)), (0, .ref (z_ad z 45))]) dX5_told_3 (by decide) rfl ?_
  obtain ⟨e4, he4, h⟩ := ps_bd h
  refine ps_sub [2, 1, 0] rfl ?_
  refine ps_loop (P := pX5_told_S4 z σ) (K := qX5_told_S4 z σ) (fun s r h k => tX5_told_S4 C Z σ  s r h k) _ _ _ he4 ?_
  unfold qX5_told_S4
  refine ps_iload_n C (pc := 31) dX5_told_31 0 rfl ?_
  obtain rfl := Option.some.inj h
  exact k _ _ dX5_told_32
def rmX5_told : Room := { frames := 0, cells := 0, slots := 0, locals := 0 }
theorem mX5_told {l : Launch} {E : ps_E} {σ : ps_S}  {r : Int32}  (h : fX5_told σ = some r) : ps_MI l yX5_told (ps_wm yX5_told cX5_told 3 (some .int)) rmX5_told [.ref (e_ad E 45)] E σ r σ :=
  ps_metI yX5_told rmX5_told 3 (own := "PartSumsModel") r (by decide +kernel) rfl (Nat.le_of_ble_eq_true rfl) rfl (fun z e1 e2 e3 e4 e5 C k => by
    subst e5
    exact tX5_told C (ps_Zof e1 e3 e4)  h k)
theorem hdX5_told : yX5_told.cls ≠ "java/lang/invoke/MethodHandle" ∧ yX5_told.cls ≠ "java/lang/invoke/VarHandle" ∧ (parseMethodDescriptor yX5_told.desc).map (fun d => d.parameters.length) = some 0 := by decide +kernel
def pX5_pairsIn_S4 (z : ps_X) (a1 : Int32) (σ : ps_S) (s : Int32 × Int32) : Prop := ps_at z 4 4 [(0, .ref (z_ad z 45)), (1, .int a1), (2, .int s.1), (3, .int s.2)] [] σ
def qX5_pairsIn_S4 (z : ps_X) (a1 : Int32) (σ : ps_S) (x : (Int32)) : Prop := match x with | y => ps_at z 4 44 [(2, .int y)] [] σ
def fX5_pairsIn_J38 (a1 : Int32) (a2 : Int32) (a3 : Int32) (σ : ps_S) : Option ((Int32 × Int32) ⊕ ((Int32))) :=
  (ps_let (a3 + (1 : Int32)) fun x3 =>
  some (.inl (a2, x3)))
set_option maxHeartbeats 4000000 in
set_option maxRecDepth 100000 in
theorem tX5_pairsIn_J38 {z : ps_X} (C : ps_C z cX5_pairsIn 4 "PartSumsModel") (Z : ps_Z z 1 22) {a1 : Int32} {a2 : Int32} {a3 : Int32} {σ : ps_S}  {r : (Int32 × Int32) ⊕ ((Int32))} (h : fX5_pairsIn_J38 a1 a2 a3 σ = some r) (k : ps_k (pX5_pairsIn_S4 z a1 σ) (qX5_pairsIn_S4 z a1 σ) r) : ps_at z 4 38 [(0, .ref (z_ad z 45)), (1, .int a1), (2, .int a2), (3, .int a3)] [] σ := by
  unfold fX5_pairsIn_J38 at h
  refine ps_iincL C (pc := 38) (zz := 1) (lw := fun x3 => [(3, .int x3), (0, .ref (z_ad z 45)), (1, .int a1), (2, .int a2)]) dX5_pairsIn_38 3 rfl (by decide) (by decide) (fun _ => rfl) h (fun x3 h => ?_)
  refine ps_goto C (pc := 41) 4 dX5_pairsIn_41 (by decide) ?_
  obtain rfl := Option.some.inj h
  exact ps_sub [1, 2, 3, 0] rfl k
def fX5_pairsIn_S4 (a1 : Int32) (σ : ps_S) (a2 : Int32) (a3 : Int32) : Option ((Int32 × Int32) ⊕ ((Int32))) :=
  ((fX5_things σ).bind fun q1 =>
  (if q1 ≤ a3 then some (.inr a2)
  else ((fX5_has a1 a3).bind fun q2 =>
  (if q2 = 0 then fX5_pairsIn_J38 a1 a2 a3 σ
  else (ps_ck ((257 : Int32) + a3) 1289 (((fX5_bits ((σ.1 47 (Int32.toNatClampNeg ((257 : Int32) + a3))) &&& a1)).bind fun q5 =>
  (ps_let (a2 + q5) fun x6 =>
  fX5_pairsIn_J38 a1 x6 a3 σ))))))))
set_option maxHeartbeats 4000000 in
set_option maxRecDepth 100000 in
theorem tX5_pairsIn_S4 {z : ps_X} (C : ps_C z cX5_pairsIn 4 "PartSumsModel") (Z : ps_Z z 1 22) (a1 : Int32) (σ : ps_S)  (s : Int32 × Int32) (r : (Int32 × Int32) ⊕ ((Int32))) (h : fX5_pairsIn_S4 a1 σ s.1 s.2 = some r) (k : ps_k (pX5_pairsIn_S4 z a1 σ) (qX5_pairsIn_S4 z a1 σ) r) : pX5_pairsIn_S4 z a1 σ s := by
  obtain ⟨a2, a3⟩ := s
  unfold fX5_pairsIn_S4 at h
  unfold pX5_pairsIn_S4
  refine ps_iload_n C (pc := 4) dX5_pairsIn_4 3 rfl ?_
  refine ps_aload_n C (pc := 5) dX5_pairsIn_5 0 rfl ?_
  obtain ⟨q1, hq1, h⟩ := ps_bd h
  refine ps_callVI C Z (pc := 6) (As := []) (k0 := 45) (mX5_things  hq1) (Cn := "PartSumsModel") rfl tw_946 tw_948 tw_36 tw_70 tw_949 hdX5_things rfl rfl ⟨by decide, by decide⟩ (by decide) ps_o45 rfl rfl (Nat.le_of_ble_eq_true rfl) dX5_pairsIn_6 rfl ?_
  refine ps_icmp_ge C (pc := 9) 44 dX5_pairsIn_9 (by decide) (fun hc => ?_) (fun hc => ?_)
  · have h := ps_ift hc h
    obtain rfl := Option.some.inj h
    exact ps_sub [2] rfl k
  · have h := ps_iff hc h
    refine ps_iload_n C (pc := 12) dX5_pairsIn_12 1 rfl ?_
    refine ps_iload_n C (pc := 13) dX5_pairsIn_13 3 rfl ?_
    obtain ⟨q2, hq2, h⟩ := ps_bd h
    refine ps_callSI C Z (pc := 14) (As := [.int a1, .int a3]) (mX5_has  hq2) tw_915 tw_916 tw_70 tw_917 hdX5_has rfl rfl ⟨by decide, by decide⟩ rfl (Nat.le_of_ble_eq_true rfl) dX5_pairsIn_14 rfl ?_
    refine ps_if_eq C (pc := 17) 38 dX5_pairsIn_17 (by decide) (fun hc => ?_) (fun hc => ?_)
    · have h := ps_ift hc h
      exact ps_sub [0, 1, 2, 3] rfl (tX5_pairsIn_J38 C Z  h k)
    · have h := ps_iff hc h
      refine ps_iload_n C (pc := 20) dX5_pairsIn_20 2 rfl ?_
      refine ps_aload_n C (pc := 21) dX5_pairsIn_21 0 rfl ?_
      refine pg_45_10 C (pc := 22) tw_806 dX5_pairsIn_22 ?_
      refine ps_sipush C (pc := 25) (v := 257) dX5_pairsIn_25 (by decide) ?_
      refine ps_iload_n C (pc := 28) dX5_pairsIn_28 3 rfl ?_
      refine ps_iadd C (pc := 29) dX5_pairsIn_29 ?_
      obtain ⟨hi4, h⟩ := ps_ck_s h
      refine ps_iald C (pc := 30) 47 rfl rfl hi4 dX5_pairsIn_30 ?_
      refine ps_iload_n C (pc := 31) dX5_pairsIn_31 1 rfl ?_
      refine ps_iand C (pc := 32) dX5_pairsIn_32 ?_
      obtain ⟨q5, hq5, h⟩ := ps_bd h
      refine ps_callSI C Z (pc := 33) (As := [.int ((σ.1 47 (Int32.toNatClampNeg ((257 : Int32) + a3))) &&& a1)]) (mX5_bits  hq5) tw_922 tw_923 tw_70 tw_924 hdX5_bits rfl rfl ⟨by decide, by decide⟩ rfl (Nat.le_of_ble_eq_true rfl) dX5_pairsIn_33 rfl ?_
      refine ps_iadd C (pc := 36) dX5_pairsIn_36 ?_
      refine ps_istoreL_n C (pc := 37) (lw := fun x6 => [(2, .int x6), (0, .ref (z_ad z 45)), (1, .int a1), (3, .int a3)]) dX5_pairsIn_37 (by decide) (fun _ => rfl) h (fun x6 h => ?_)
      exact ps_sub [1, 2, 0, 3] rfl (tX5_pairsIn_J38 C Z  h k)
def fX5_pairsIn (a1 : Int32) (σ : ps_S) : Option (Int32) :=
  ((ps_lp (fun s => fX5_pairsIn_S4 a1 σ s.1 s.2) 100000 ((0 : Int32), (0 : Int32))).bind fun e7 =>
  some (e7 / (2 : Int32)))
set_option maxHeartbeats 4000000 in
set_option maxRecDepth 100000 in
theorem tX5_pairsIn {z : ps_X} (C : ps_C z cX5_pairsIn 4 "PartSumsModel") (Z : ps_Z z 1 22) {a1 : Int32} {σ : ps_S}  {r : Int32} (h : fX5_pairsIn a1 σ = some r) (k : ps_KI z 4 cX5_pairsIn r σ) : ps_at z 4 0 [(0, .ref (z_ad z 45)), (1, .int a1)] [] σ := by
  unfold fX5_pairsIn at h
  refine ps_iconst C (pc := 0) (v := 0) dX5_pairsIn_0 (by decide) ?_
  refine ps_istore_n C (pc := 1) (lv' := [(2, .int (0 : Int32)), (0, .ref (z_ad z 45)), (1, .int a1)]) dX5_pairsIn_1 (by decide) rfl ?_
  refine ps_iconst C (pc := 2) (v := 0) dX5_pairsIn_2 (by decide) ?_
  refine ps_istore_n C (pc := 3) (lv' := [(3, .int (0 : Int32)), (2, .int (0 : Int32)), (0, .ref (z_ad z 45)), (1, .int a1)]) dX5_pairsIn_3 (by decide) rfl ?_
  obtain ⟨e7, he7, h⟩ := ps_bd h
  refine ps_sub [2, 3, 1, 0] rfl ?_
  refine ps_loop (P := pX5_pairsIn_S4 z a1 σ) (K := qX5_pairsIn_S4 z a1 σ) (fun s r h k => tX5_pairsIn_S4 C Z a1 σ  s r h k) _ _ _ he7 ?_
  unfold qX5_pairsIn_S4
  refine ps_iload_n C (pc := 44) dX5_pairsIn_44 0 rfl ?_
  refine ps_iconst C (pc := 45) (v := 2) dX5_pairsIn_45 (by decide) ?_
  refine ps_idiv C (pc := 46) dX5_pairsIn_46 (by decide) ?_
  obtain rfl := Option.some.inj h
  exact k _ _ dX5_pairsIn_47
def rmX5_pairsIn : Room := { frames := 1, cells := 0, slots := 0, locals := 22 }
theorem mX5_pairsIn {l : Launch} {E : ps_E} {σ : ps_S} {a1 : Int32} {r : Int32}  (h : fX5_pairsIn a1 σ = some r) : ps_MI l yX5_pairsIn (ps_wm yX5_pairsIn cX5_pairsIn 4 (some .int)) rmX5_pairsIn [.ref (e_ad E 45), .int a1] E σ r σ :=
  ps_metI yX5_pairsIn rmX5_pairsIn 4 (own := "PartSumsModel") r (by decide +kernel) rfl (Nat.le_of_ble_eq_true rfl) rfl (fun z e1 e2 e3 e4 e5 C k => by
    subst e5
    exact tX5_pairsIn C (ps_Zof e1 e3 e4)  h k)
theorem hdX5_pairsIn : yX5_pairsIn.cls ≠ "java/lang/invoke/MethodHandle" ∧ yX5_pairsIn.cls ≠ "java/lang/invoke/VarHandle" ∧ (parseMethodDescriptor yX5_pairsIn.desc).map (fun d => d.parameters.length) = some 1 := by decide +kernel
def fX5_now (a1 : Int32) (σ : ps_S) : Option (Int32 × ps_S) :=
  (ps_let (ps_ui σ 45 0 (0 : Int32)) fun σ1 =>
  (if a1 = (0 : Int32) then ((fX5_things σ1).bind fun q2 =>
  some (q2, σ1))
  else (if a1 = (1 : Int32) then ((fX5_told σ1).bind fun q3 =>
  some (q3, σ1))
  else (if a1 = (2 : Int32) then ((fX5_all σ1).bind fun q4 =>
  ((fX5_pairsIn q4 σ1).bind fun q5 =>
  some (q5, σ1)))
  else (if a1 = (3 : Int32) then some ((σ1.1 45 15), σ1)
  else (if a1 = (4 : Int32) then some ((σ1.1 45 2), σ1)
  else some ((-1 : Int32), σ1)))))))
set_option maxHeartbeats 4000000 in
set_option maxRecDepth 100000 in
theorem tX5_now {z : ps_X} (C : ps_C z cX5_now 2 "PartSumsModel") (Z : ps_Z z 2 45) {a1 : Int32} {σ : ps_S}  {r : Int32 × ps_S} (h : fX5_now a1 σ = some r) (k : ps_KI z 2 cX5_now r.1 r.2) : ps_at z 2 0 [(0, .ref (z_ad z 45)), (1, .int a1)] [] σ := by
  unfold fX5_now at h
  refine ps_aload_n C (pc := 0) dX5_now_0 0 rfl ?_
  refine ps_iconst C (pc := 1) (v := 0) dX5_now_1 (by decide) ?_
  refine pp_45_0 C (pc := 2) tw_796 dX5_now_2 h (fun σ1 h => ?_)
  refine ps_iload_n C (pc := 5) dX5_now_5 1 rfl ?_
  by_cases hc6_0 : a1 = (0 : Int32)
  · have h := ps_ift hc6_0 h
    refine ps_tsw C (pc := 6) 0 hc6_0 40 dX5_now_6 (by decide) (by decide) (by rfl) (by decide) ?_
    refine ps_aload_n C (pc := 40) dX5_now_40 0 rfl ?_
    obtain ⟨q2, hq2, h⟩ := ps_bd h
    refine ps_callVI C Z (pc := 41) (As := []) (k0 := 45) (mX5_things  hq2) (Cn := "PartSumsModel") rfl tw_946 tw_948 tw_36 tw_70 tw_949 hdX5_things rfl rfl ⟨by decide, by decide⟩ (by decide) ps_o45 rfl rfl (Nat.le_of_ble_eq_true rfl) dX5_now_41 rfl ?_
    obtain rfl := Option.some.inj h
    exact k _ _ dX5_now_44
  replace h := ps_iff hc6_0 h
  by_cases hc6_1 : a1 = (1 : Int32)
  · have h := ps_ift hc6_1 h
    refine ps_tsw C (pc := 6) 1 hc6_1 45 dX5_now_6 (by decide) (by decide) (by rfl) (by decide) ?_
    refine ps_aload_n C (pc := 45) dX5_now_45 0 rfl ?_
    obtain ⟨q3, hq3, h⟩ := ps_bd h
    refine ps_callVI C Z (pc := 46) (As := []) (k0 := 45) (mX5_told  hq3) (Cn := "PartSumsModel") rfl tw_950 tw_952 tw_37 tw_70 tw_953 hdX5_told rfl rfl ⟨by decide, by decide⟩ (by decide) ps_o45 rfl rfl (Nat.le_of_ble_eq_true rfl) dX5_now_46 rfl ?_
    obtain rfl := Option.some.inj h
    exact k _ _ dX5_now_49
  replace h := ps_iff hc6_1 h
  by_cases hc6_2 : a1 = (2 : Int32)
  · have h := ps_ift hc6_2 h
    refine ps_tsw C (pc := 6) 2 hc6_2 50 dX5_now_6 (by decide) (by decide) (by rfl) (by decide) ?_
    refine ps_aload_n C (pc := 50) dX5_now_50 0 rfl ?_
    refine ps_aload_n C (pc := 51) dX5_now_51 0 rfl ?_
    obtain ⟨q4, hq4, h⟩ := ps_bd h
    refine ps_callVI C Z (pc := 52) (As := []) (k0 := 45) (mX5_all  hq4) (Cn := "PartSumsModel") rfl tw_954 tw_956 tw_38 tw_70 tw_957 hdX5_all rfl rfl ⟨by decide, by decide⟩ (by decide) ps_o45 rfl rfl (Nat.le_of_ble_eq_true rfl) dX5_now_52 rfl ?_
    obtain ⟨q5, hq5, h⟩ := ps_bd h
    refine ps_callVI C Z (pc := 55) (As := [.int q4]) (k0 := 45) (mX5_pairsIn  hq5) (Cn := "PartSumsModel") rfl tw_958 tw_960 tw_39 tw_70 tw_961 hdX5_pairsIn rfl rfl ⟨by decide, by decide⟩ (by decide) ps_o45 rfl rfl (Nat.le_of_ble_eq_true rfl) dX5_now_55 rfl ?_
    obtain rfl := Option.some.inj h
    exact k _ _ dX5_now_58
  replace h := ps_iff hc6_2 h
  by_cases hc6_3 : a1 = (3 : Int32)
  · have h := ps_ift hc6_3 h
    refine ps_tsw C (pc := 6) 3 hc6_3 59 dX5_now_6 (by decide) (by decide) (by rfl) (by decide) ?_
    refine ps_aload_n C (pc := 59) dX5_now_59 0 rfl ?_
    refine pg_45_15 C (pc := 60) tw_811 dX5_now_60 ?_
    obtain rfl := Option.some.inj h
    exact k _ _ dX5_now_63
  replace h := ps_iff hc6_3 h
  by_cases hc6_4 : a1 = (4 : Int32)
  · have h := ps_ift hc6_4 h
    refine ps_tsw C (pc := 6) 4 hc6_4 64 dX5_now_6 (by decide) (by decide) (by rfl) (by decide) ?_
    refine ps_aload_n C (pc := 64) dX5_now_64 0 rfl ?_
    refine pg_45_2 C (pc := 65) tw_798 dX5_now_65 ?_
    obtain rfl := Option.some.inj h
    exact k _ _ dX5_now_68
  replace h := ps_iff hc6_4 h
  refine ps_tsd C (pc := 6) 69 dX5_now_6 (by have q0 := ps_ni hc6_0 (n := 0) (by decide); have q1 := ps_ni hc6_1 (n := 1) (by decide); have q2 := ps_ni hc6_2 (n := 2) (by decide); have q3 := ps_ni hc6_3 (n := 3) (by decide); have q4 := ps_ni hc6_4 (n := 4) (by decide); omega) (by decide) ?_
  refine ps_iconst C (pc := 69) (v := -1) dX5_now_69 (by decide) ?_
  obtain rfl := Option.some.inj h
  exact k _ _ dX5_now_70
def rmX5_now : Room := { frames := 2, cells := 0, slots := 0, locals := 45 }
theorem mX5_now {l : Launch} {E : ps_E} {σ : ps_S} {a1 : Int32} {r : Int32 × ps_S}  (h : fX5_now a1 σ = some r) : ps_MI l yX5_now (ps_wm yX5_now cX5_now 2 (some .int)) rmX5_now [.ref (e_ad E 45), .int a1] E σ r.1 r.2 :=
  ps_metI yX5_now rmX5_now 2 (own := "PartSumsModel") r.1 (by decide +kernel) rfl (Nat.le_of_ble_eq_true rfl) rfl (fun z e1 e2 e3 e4 e5 C k => by
    subst e5
    exact tX5_now C (ps_Zof e1 e3 e4)  h k)
theorem hdX5_now : yX5_now.cls ≠ "java/lang/invoke/MethodHandle" ∧ yX5_now.cls ≠ "java/lang/invoke/VarHandle" ∧ (parseMethodDescriptor yX5_now.desc).map (fun d => d.parameters.length) = some 1 := by decide +kernel
def fX5_weight (a1 : Int32) (σ : ps_S) : Option (Int32 × ps_S) :=
  (ps_let (ps_ui σ 45 0 (0 : Int32)) fun σ1 =>
  ((fX5_isSet a1 σ1).bind fun q2 =>
  (if q2 = 0 then some ((-1 : Int32), σ1)
  else (ps_ck ((1 : Int32) + a1) 1289 (some ((σ1.1 47 (Int32.toNatClampNeg ((1 : Int32) + a1))), σ1))))))
set_option maxHeartbeats 4000000 in
set_option maxRecDepth 100000 in
theorem tX5_weight {z : ps_X} (C : ps_C z cX5_weight 2 "PartSumsModel") (Z : ps_Z z 3 61) {a1 : Int32} {σ : ps_S}  {r : Int32 × ps_S} (h : fX5_weight a1 σ = some r) (k : ps_KI z 2 cX5_weight r.1 r.2) : ps_at z 2 0 [(0, .ref (z_ad z 45)), (1, .int a1)] [] σ := by
  unfold fX5_weight at h
  refine ps_aload_n C (pc := 0) dX5_weight_0 0 rfl ?_
  refine ps_iconst C (pc := 1) (v := 0) dX5_weight_1 (by decide) ?_
  refine pp_45_0 C (pc := 2) tw_796 dX5_weight_2 h (fun σ1 h => ?_)
  refine ps_aload_n C (pc := 5) dX5_weight_5 0 rfl ?_
  refine ps_iload_n C (pc := 6) dX5_weight_6 1 rfl ?_
  obtain ⟨q2, hq2, h⟩ := ps_bd h
  refine ps_callVI C Z (pc := 7) (As := [.int a1]) (k0 := 45) (mX5_isSet  hq2) (Cn := "PartSumsModel") rfl tw_966 tw_968 tw_40 tw_70 tw_969 hdX5_isSet rfl rfl ⟨by decide, by decide⟩ (by decide) ps_o45 rfl rfl (Nat.le_of_ble_eq_true rfl) dX5_weight_7 rfl ?_
  refine ps_if_eq C (pc := 10) 24 dX5_weight_10 (by decide) (fun hc => ?_) (fun hc => ?_)
  · have h := ps_ift hc h
    refine ps_iconst C (pc := 24) (v := -1) dX5_weight_24 (by decide) ?_
    obtain rfl := Option.some.inj h
    exact k _ _ dX5_weight_25
  · have h := ps_iff hc h
    refine ps_aload_n C (pc := 13) dX5_weight_13 0 rfl ?_
    refine pg_45_10 C (pc := 14) tw_806 dX5_weight_14 ?_
    refine ps_iconst C (pc := 17) (v := 1) dX5_weight_17 (by decide) ?_
    refine ps_iload_n C (pc := 18) dX5_weight_18 1 rfl ?_
    refine ps_iadd C (pc := 19) dX5_weight_19 ?_
    obtain ⟨hi3, h⟩ := ps_ck_s h
    refine ps_iald C (pc := 20) 47 rfl rfl hi3 dX5_weight_20 ?_
    refine ps_goto C (pc := 21) 25 dX5_weight_21 (by decide) ?_
    obtain rfl := Option.some.inj h
    exact k _ _ dX5_weight_25
def rmX5_weight : Room := { frames := 3, cells := 0, slots := 0, locals := 61 }
theorem mX5_weight {l : Launch} {E : ps_E} {σ : ps_S} {a1 : Int32} {r : Int32 × ps_S}  (h : fX5_weight a1 σ = some r) : ps_MI l yX5_weight (ps_wm yX5_weight cX5_weight 2 (some .int)) rmX5_weight [.ref (e_ad E 45), .int a1] E σ r.1 r.2 :=
  ps_metI yX5_weight rmX5_weight 2 (own := "PartSumsModel") r.1 (by decide +kernel) rfl (Nat.le_of_ble_eq_true rfl) rfl (fun z e1 e2 e3 e4 e5 C k => by
    subst e5
    exact tX5_weight C (ps_Zof e1 e3 e4)  h k)
theorem hdX5_weight : yX5_weight.cls ≠ "java/lang/invoke/MethodHandle" ∧ yX5_weight.cls ≠ "java/lang/invoke/VarHandle" ∧ (parseMethodDescriptor yX5_weight.desc).map (fun d => d.parameters.length) = some 1 := by decide +kernel
def fX5_joined (a1 : Int32) (σ : ps_S) : Option (Int32 × ps_S) :=
  (ps_let (ps_ui σ 45 0 (0 : Int32)) fun σ1 =>
  ((fX5_isThing a1 σ1).bind fun q2 =>
  (if q2 = 0 then some ((-1 : Int32), σ1)
  else (ps_ck ((257 : Int32) + a1) 1289 (some ((σ1.1 47 (Int32.toNatClampNeg ((257 : Int32) + a1))), σ1))))))
set_option maxHeartbeats 4000000 in
set_option maxRecDepth 100000 in
theorem tX5_joined {z : ps_X} (C : ps_C z cX5_joined 2 "PartSumsModel") (Z : ps_Z z 2 43) {a1 : Int32} {σ : ps_S}  {r : Int32 × ps_S} (h : fX5_joined a1 σ = some r) (k : ps_KI z 2 cX5_joined r.1 r.2) : ps_at z 2 0 [(0, .ref (z_ad z 45)), (1, .int a1)] [] σ := by
  unfold fX5_joined at h
  refine ps_aload_n C (pc := 0) dX5_joined_0 0 rfl ?_
  refine ps_iconst C (pc := 1) (v := 0) dX5_joined_1 (by decide) ?_
  refine pp_45_0 C (pc := 2) tw_796 dX5_joined_2 h (fun σ1 h => ?_)
  refine ps_aload_n C (pc := 5) dX5_joined_5 0 rfl ?_
  refine ps_iload_n C (pc := 6) dX5_joined_6 1 rfl ?_
  obtain ⟨q2, hq2, h⟩ := ps_bd h
  refine ps_callVI C Z (pc := 7) (As := [.int a1]) (k0 := 45) (mX5_isThing  hq2) (Cn := "PartSumsModel") rfl tw_974 tw_976 tw_41 tw_70 tw_977 hdX5_isThing rfl rfl ⟨by decide, by decide⟩ (by decide) ps_o45 rfl rfl (Nat.le_of_ble_eq_true rfl) dX5_joined_7 rfl ?_
  refine ps_if_eq C (pc := 10) 26 dX5_joined_10 (by decide) (fun hc => ?_) (fun hc => ?_)
  · have h := ps_ift hc h
    refine ps_iconst C (pc := 26) (v := -1) dX5_joined_26 (by decide) ?_
    obtain rfl := Option.some.inj h
    exact k _ _ dX5_joined_27
  · have h := ps_iff hc h
    refine ps_aload_n C (pc := 13) dX5_joined_13 0 rfl ?_
    refine pg_45_10 C (pc := 14) tw_806 dX5_joined_14 ?_
    refine ps_sipush C (pc := 17) (v := 257) dX5_joined_17 (by decide) ?_
    refine ps_iload_n C (pc := 20) dX5_joined_20 1 rfl ?_
    refine ps_iadd C (pc := 21) dX5_joined_21 ?_
    obtain ⟨hi3, h⟩ := ps_ck_s h
    refine ps_iald C (pc := 22) 47 rfl rfl hi3 dX5_joined_22 ?_
    refine ps_goto C (pc := 23) 27 dX5_joined_23 (by decide) ?_
    obtain rfl := Option.some.inj h
    exact k _ _ dX5_joined_27
def rmX5_joined : Room := { frames := 2, cells := 0, slots := 0, locals := 43 }
theorem mX5_joined {l : Launch} {E : ps_E} {σ : ps_S} {a1 : Int32} {r : Int32 × ps_S}  (h : fX5_joined a1 σ = some r) : ps_MI l yX5_joined (ps_wm yX5_joined cX5_joined 2 (some .int)) rmX5_joined [.ref (e_ad E 45), .int a1] E σ r.1 r.2 :=
  ps_metI yX5_joined rmX5_joined 2 (own := "PartSumsModel") r.1 (by decide +kernel) rfl (Nat.le_of_ble_eq_true rfl) rfl (fun z e1 e2 e3 e4 e5 C k => by
    subst e5
    exact tX5_joined C (ps_Zof e1 e3 e4)  h k)
theorem hdX5_joined : yX5_joined.cls ≠ "java/lang/invoke/MethodHandle" ∧ yX5_joined.cls ≠ "java/lang/invoke/VarHandle" ∧ (parseMethodDescriptor yX5_joined.desc).map (fun d => d.parameters.length) = some 1 := by decide +kernel
def fX5_numberOf (a1 : Int32) (a2 : Int32) (σ : ps_S) : Option (Int32) :=
  (ps_ck (((265 : Int32) + ((256 : Int32) * a1)) + a2) 1289 (some (σ.1 47 (Int32.toNatClampNeg (((265 : Int32) + ((256 : Int32) * a1)) + a2)))))
set_option maxHeartbeats 4000000 in
set_option maxRecDepth 100000 in
theorem tX5_numberOf {z : ps_X} (C : ps_C z cX5_numberOf 3 "PartSumsModel") (Z : ps_Z z 0 0) {a1 : Int32} {a2 : Int32} {σ : ps_S}  {r : Int32} (h : fX5_numberOf a1 a2 σ = some r) (k : ps_KI z 3 cX5_numberOf r σ) : ps_at z 3 0 [(0, .ref (z_ad z 45)), (1, .int a1), (2, .int a2)] [] σ := by
  unfold fX5_numberOf at h
  refine ps_aload_n C (pc := 0) dX5_numberOf_0 0 rfl ?_
  refine pg_45_10 C (pc := 1) tw_806 dX5_numberOf_1 ?_
  refine ps_sipush C (pc := 4) (v := 265) dX5_numberOf_4 (by decide) ?_
  refine ps_sipush C (pc := 7) (v := 256) dX5_numberOf_7 (by decide) ?_
  refine ps_iload_n C (pc := 10) dX5_numberOf_10 1 rfl ?_
  refine ps_imul C (pc := 11) dX5_numberOf_11 ?_
  refine ps_iadd C (pc := 12) dX5_numberOf_12 ?_
  refine ps_iload_n C (pc := 13) dX5_numberOf_13 2 rfl ?_
  refine ps_iadd C (pc := 14) dX5_numberOf_14 ?_
  obtain ⟨hi1, h⟩ := ps_ck_s h
  refine ps_iald C (pc := 15) 47 rfl rfl hi1 dX5_numberOf_15 ?_
  obtain rfl := Option.some.inj h
  exact k _ _ dX5_numberOf_16
def rmX5_numberOf : Room := { frames := 0, cells := 0, slots := 0, locals := 0 }
theorem mX5_numberOf {l : Launch} {E : ps_E} {σ : ps_S} {a1 : Int32} {a2 : Int32} {r : Int32}  (h : fX5_numberOf a1 a2 σ = some r) : ps_MI l yX5_numberOf (ps_wm yX5_numberOf cX5_numberOf 3 (some .int)) rmX5_numberOf [.ref (e_ad E 45), .int a1, .int a2] E σ r σ :=
  ps_metI yX5_numberOf rmX5_numberOf 3 (own := "PartSumsModel") r (by decide +kernel) rfl (Nat.le_of_ble_eq_true rfl) rfl (fun z e1 e2 e3 e4 e5 C k => by
    subst e5
    exact tX5_numberOf C (ps_Zof e1 e3 e4)  h k)
theorem hdX5_numberOf : yX5_numberOf.cls ≠ "java/lang/invoke/MethodHandle" ∧ yX5_numberOf.cls ≠ "java/lang/invoke/VarHandle" ∧ (parseMethodDescriptor yX5_numberOf.desc).map (fun d => d.parameters.length) = some 2 := by decide +kernel
def fX5_rest (a0 : Int64) : Option (Int32) :=
  (ps_let (a0 - a0 / (1000003 : Int64) * (1000003 : Int64)) fun x1 =>
  (if 0 ≤ (lg_cmp x1 (0 : Int64)) then some (Int64.toInt32 x1)
  else some (Int64.toInt32 (x1 + (1000003 : Int64)))))
set_option maxHeartbeats 4000000 in
set_option maxRecDepth 100000 in
theorem tX5_rest {z : ps_X} (C : ps_C z cX5_rest 4 "PartSumsModel") (Z : ps_Z z 0 0) {a0 : Int64}  {σ : ps_S} {r : Int32} (h : fX5_rest a0 = some r) (k : ps_KI z 4 cX5_rest r σ) : ps_at z 4 0 [(0, .long a0)] [] σ := by
  unfold fX5_rest at h
  refine ps_lload_n C (pc := 0) dX5_rest_0 0 rfl ?_
  refine ps_ldc2 C (pc := 1) tw_1001 dX5_rest_1 ?_
  refine ps_lrem C (pc := 4) dX5_rest_4 (by decide) ?_
  refine ps_lstoreL_n C (pc := 5) (lw := fun x1 => [(2, .long x1), (0, .long a0)]) dX5_rest_5 (by decide) (fun _ => rfl) h (fun x1 h => ?_)
  refine ps_lload_n C (pc := 6) dX5_rest_6 0 rfl ?_
  refine ps_lconst C (pc := 7) (v := 0) dX5_rest_7 (by decide) ?_
  refine ps_lcmp C (pc := 8) dX5_rest_8 ?_
  refine ps_if_ge C (pc := 9) 20 dX5_rest_9 (by decide) (fun hc => ?_) (fun hc => ?_)
  · have h := ps_ift hc h
    refine ps_lload_n C (pc := 20) dX5_rest_20 0 rfl ?_
    refine ps_l2i C (pc := 21) dX5_rest_21 ?_
    obtain rfl := Option.some.inj h
    exact k _ _ dX5_rest_22
  · have h := ps_iff hc h
    refine ps_lload_n C (pc := 12) dX5_rest_12 0 rfl ?_
    refine ps_ldc2 C (pc := 13) tw_1001 dX5_rest_13 ?_
    refine ps_ladd C (pc := 16) dX5_rest_16 ?_
    refine ps_goto C (pc := 17) 21 dX5_rest_17 (by decide) ?_
    refine ps_l2i C (pc := 21) dX5_rest_21 ?_
    obtain rfl := Option.some.inj h
    exact k _ _ dX5_rest_22
def rmX5_rest : Room := { frames := 0, cells := 0, slots := 0, locals := 0 }
theorem mX5_rest {l : Launch} {E : ps_E} {σ : ps_S} {a0 : Int64} {r : Int32}  (h : fX5_rest a0 = some r) : ps_MI l yX5_rest (ps_wm yX5_rest cX5_rest 4 (some .int)) rmX5_rest [.long a0] E σ r σ :=
  ps_metI yX5_rest rmX5_rest 4 (own := "PartSumsModel") r (by decide +kernel) rfl (Nat.le_of_ble_eq_true rfl) rfl (fun z e1 e2 e3 e4 e5 C k => by
    subst e5
    exact tX5_rest C (ps_Zof e1 e3 e4)  h k)
theorem hdX5_rest : yX5_rest.cls ≠ "java/lang/invoke/MethodHandle" ∧ yX5_rest.cls ≠ "java/lang/invoke/VarHandle" ∧ (parseMethodDescriptor yX5_rest.desc).map (fun d => d.parameters.length) = some 1 := by decide +kernel
def fX5_snap_J50 (σ : ps_S) : Option (ps_S) :=
  ((fX5_copy 47 (0 : Int32) 50 ((1289 : Int32) * (σ.1 45 15)) σ).bind fun q1 =>
  (ps_let (ps_ui q1 45 15 ((q1.1 45 15) + (1 : Int32))) fun σ2 =>
  some σ2))
set_option maxHeartbeats 4000000 in
set_option maxRecDepth 100000 in
theorem tX5_snap_J50 {z : ps_X} (C : ps_C z cX5_snap 2 "PartSumsModel") (Z : ps_Z z 1 24) {σ : ps_S}  {r : ps_S} (h : fX5_snap_J50 σ = some r) (k : ps_KV z 2 cX5_snap r) : ps_at z 2 50 [(0, .ref (z_ad z 45))] [] σ := by
  unfold fX5_snap_J50 at h
  refine ps_aload_n C (pc := 50) dX5_snap_50 0 rfl ?_
  refine pg_45_10 C (pc := 51) tw_806 dX5_snap_51 ?_
  refine ps_iconst C (pc := 54) (v := 0) dX5_snap_54 (by decide) ?_
  refine ps_aload_n C (pc := 55) dX5_snap_55 0 rfl ?_
  refine pg_45_13 C (pc := 56) tw_809 dX5_snap_56 ?_
  refine ps_sipush C (pc := 59) (v := 1289) dX5_snap_59 (by decide) ?_
  refine ps_aload_n C (pc := 62) dX5_snap_62 0 rfl ?_
  refine pg_45_15 C (pc := 63) tw_811 dX5_snap_63 ?_
  refine ps_imul C (pc := 66) dX5_snap_66 ?_
  obtain ⟨q1, hq1, h⟩ := ps_bd h
  refine ps_callSV C Z (pc := 67) (As := [.ref (z_ad z 47), .int (0 : Int32), .ref (z_ad z 50), .int ((1289 : Int32) * (σ.1 45 15))]) (mX5_copy (by rfl) (by rfl) hq1) tw_935 tw_936 tw_70 tw_937 hdX5_copy rfl rfl ⟨by decide, by decide⟩ rfl (Nat.le_of_ble_eq_true rfl) dX5_snap_67 rfl ?_
  refine ps_aload_n C (pc := 70) dX5_snap_70 0 rfl ?_
  refine ps_dup C (pc := 71) dX5_snap_71 rfl ?_
  refine pg_45_15 C (pc := 72) tw_811 dX5_snap_72 ?_
  refine ps_iconst C (pc := 75) (v := 1) dX5_snap_75 (by decide) ?_
  refine ps_iadd C (pc := 76) dX5_snap_76 ?_
  refine pp_45_15 C (pc := 77) tw_811 dX5_snap_77 h (fun σ2 h => ?_)
  obtain rfl := Option.some.inj h
  exact k _ _ dX5_snap_80
def pX5_snap_S11 (z : ps_X)  (s : Int32 × ps_S) : Prop := ps_at z 2 11 [(0, .ref (z_ad z 45)), (1, .int s.1)] [] s.2
def qX5_snap_S11 (z : ps_X)  (x : (ps_S)) : Prop := match x with | y => ps_at z 2 40 [(0, .ref (z_ad z 45))] [] y
def fX5_snap_S11  (a1 : Int32) (σ : ps_S) : Option ((Int32 × ps_S) ⊕ ((ps_S))) :=
  (if (9023 : Int32) ≤ a1 then some (.inr σ)
  else (ps_ck (a1 + (1289 : Int32)) 10312 ((ps_ck a1 10312 ((ps_let (ps_ui σ 50 (Int32.toNatClampNeg a1) (σ.1 50 (Int32.toNatClampNeg (a1 + (1289 : Int32))))) fun σ5 =>
  (ps_let (a1 + (1 : Int32)) fun x6 =>
  some (.inl (x6, σ5)))))))))
set_option maxHeartbeats 4000000 in
set_option maxRecDepth 100000 in
theorem tX5_snap_S11 {z : ps_X} (C : ps_C z cX5_snap 2 "PartSumsModel") (Z : ps_Z z 1 24)   (s : Int32 × ps_S) (r : (Int32 × ps_S) ⊕ ((ps_S))) (h : fX5_snap_S11  s.1 s.2 = some r) (k : ps_k (pX5_snap_S11 z ) (qX5_snap_S11 z ) r) : pX5_snap_S11 z  s := by
  obtain ⟨a1, σ⟩ := s
  unfold fX5_snap_S11 at h
  unfold pX5_snap_S11
  refine ps_iload_n C (pc := 11) dX5_snap_11 1 rfl ?_
  refine ps_sipush C (pc := 12) (v := 9023) dX5_snap_12 (by decide) ?_
  refine ps_icmp_ge C (pc := 15) 40 dX5_snap_15 (by decide) (fun hc => ?_) (fun hc => ?_)
  · have h := ps_ift hc h
    obtain rfl := Option.some.inj h
    exact ps_sub [0] rfl k
  · have h := ps_iff hc h
    refine ps_aload_n C (pc := 18) dX5_snap_18 0 rfl ?_
    refine pg_45_13 C (pc := 19) tw_809 dX5_snap_19 ?_
    refine ps_iload_n C (pc := 22) dX5_snap_22 1 rfl ?_
    refine ps_aload_n C (pc := 23) dX5_snap_23 0 rfl ?_
    refine pg_45_13 C (pc := 24) tw_809 dX5_snap_24 ?_
    refine ps_iload_n C (pc := 27) dX5_snap_27 1 rfl ?_
    refine ps_sipush C (pc := 28) (v := 1289) dX5_snap_28 (by decide) ?_
    refine ps_iadd C (pc := 31) dX5_snap_31 ?_
    obtain ⟨hi3, h⟩ := ps_ck_s h
    refine ps_iald C (pc := 32) 50 rfl rfl hi3 dX5_snap_32 ?_
    obtain ⟨hi4, h⟩ := ps_ck_s h
    refine ps_iastL C (pc := 33) 50 rfl rfl hi4 dX5_snap_33 h (fun σ5 h => ?_)
    refine ps_iincL C (pc := 34) (zz := 1) (lw := fun x6 => [(1, .int x6), (0, .ref (z_ad z 45))]) dX5_snap_34 1 rfl (by decide) (by decide) (fun _ => rfl) h (fun x6 h => ?_)
    refine ps_goto C (pc := 37) 11 dX5_snap_37 (by decide) ?_
    obtain rfl := Option.some.inj h
    exact ps_sub [1, 0] rfl k
def fX5_snap (σ : ps_S) : Option (ps_S) :=
  (if (σ.1 45 15) = (8 : Int32) then ((ps_lp (fun s => fX5_snap_S11  s.1 s.2) 100000 ((0 : Int32), σ)).bind fun e7 =>
  (ps_let (ps_ui e7 45 15 ((e7.1 45 15) - (1 : Int32))) fun σ8 =>
  fX5_snap_J50 σ8))
  else fX5_snap_J50 σ)
set_option maxHeartbeats 4000000 in
set_option maxRecDepth 100000 in
theorem tX5_snap {z : ps_X} (C : ps_C z cX5_snap 2 "PartSumsModel") (Z : ps_Z z 1 24) {σ : ps_S}  {r : ps_S} (h : fX5_snap σ = some r) (k : ps_KV z 2 cX5_snap r) : ps_at z 2 0 [(0, .ref (z_ad z 45))] [] σ := by
  unfold fX5_snap at h
  refine ps_aload_n C (pc := 0) dX5_snap_0 0 rfl ?_
  refine pg_45_15 C (pc := 1) tw_811 dX5_snap_1 ?_
  refine ps_bipush C (pc := 4) (v := 8) dX5_snap_4 (by decide) ?_
  refine ps_icmp_ne C (pc := 6) 50 dX5_snap_6 (by decide) (fun hc => ?_) (fun hc => ?_)
  · have h := ps_iff hc h
    exact ps_sub [0] rfl (tX5_snap_J50 C Z  h k)
  · have h := ps_ift hc h
    refine ps_iconst C (pc := 9) (v := 0) dX5_snap_9 (by decide) ?_
    refine ps_istore_n C (pc := 10) (lv' := [(1, .int (0 : Int32)), (0, .ref (z_ad z 45))]) dX5_snap_10 (by decide) rfl ?_
    obtain ⟨e7, he7, h⟩ := ps_bd h
    refine ps_sub [1, 0] rfl ?_
    refine ps_loop (P := pX5_snap_S11 z ) (K := qX5_snap_S11 z ) (fun s r h k => tX5_snap_S11 C Z   s r h k) _ _ _ he7 ?_
    unfold qX5_snap_S11
    refine ps_aload_n C (pc := 40) dX5_snap_40 0 rfl ?_
    refine ps_dup C (pc := 41) dX5_snap_41 rfl ?_
    refine pg_45_15 C (pc := 42) tw_811 dX5_snap_42 ?_
    refine ps_iconst C (pc := 45) (v := 1) dX5_snap_45 (by decide) ?_
    refine ps_isub C (pc := 46) dX5_snap_46 ?_
    refine pp_45_15 C (pc := 47) tw_811 dX5_snap_47 h (fun σ8 h => ?_)
    exact ps_sub [0] rfl (tX5_snap_J50 C Z  h k)
def rmX5_snap : Room := { frames := 1, cells := 0, slots := 0, locals := 24 }
theorem mX5_snap {l : Launch} {E : ps_E} {σ : ps_S}  {r : ps_S}  (h : fX5_snap σ = some r) : ps_MV l yX5_snap (ps_wm yX5_snap cX5_snap 2 none) rmX5_snap [.ref (e_ad E 45)] E σ r :=
  ps_metV yX5_snap rmX5_snap 2 (own := "PartSumsModel")  (by decide +kernel) rfl (Nat.le_of_ble_eq_true rfl) rfl (fun z e1 e2 e3 e4 e5 C k => by
    subst e5
    exact tX5_snap C (ps_Zof e1 e3 e4)  h k)
theorem hdX5_snap : yX5_snap.cls ≠ "java/lang/invoke/MethodHandle" ∧ yX5_snap.cls ≠ "java/lang/invoke/VarHandle" ∧ (parseMethodDescriptor yX5_snap.desc).map (fun d => d.parameters.length) = some 0 := by decide +kernel
def pX5_becomes_S6 (z : ps_X) (a1 : Int32) (a2 : Int32) (s : Int32 × ps_S) : Prop := ps_at z 4 6 [(0, .ref (z_ad z 45)), (1, .int a1), (2, .int a2), (3, .int s.1)] [] s.2
def qX5_becomes_S6 (z : ps_X) (a1 : Int32) (a2 : Int32) (x : (ps_S)) : Prop := match x with | y => ps_at z 4 42 [(0, .ref (z_ad z 45)), (2, .int a2)] [] y
def fX5_becomes_S6 (a1 : Int32) (a2 : Int32) (a3 : Int32) (σ : ps_S) : Option ((Int32 × ps_S) ⊕ ((ps_S))) :=
  ((fX5_all σ).bind fun q2 =>
  (if q2 < a3 then some (.inr σ)
  else (ps_ck a3 256 ((ps_ck (((265 : Int32) + ((256 : Int32) * a1)) + a3) 1289 ((ps_let (ps_ui σ 47 (Int32.toNatClampNeg (((265 : Int32) + ((256 : Int32) * a1)) + a3)) (σ.1 52 (Int32.toNatClampNeg a3))) fun σ5 =>
  (ps_let (a3 + (1 : Int32)) fun x6 =>
  some (.inl (x6, σ5))))))))))
set_option maxHeartbeats 4000000 in
set_option maxRecDepth 100000 in
theorem tX5_becomes_S6 {z : ps_X} (C : ps_C z cX5_becomes 4 "PartSumsModel") (Z : ps_Z z 2 45) (a1 : Int32) (a2 : Int32)  (s : Int32 × ps_S) (r : (Int32 × ps_S) ⊕ ((ps_S))) (h : fX5_becomes_S6 a1 a2 s.1 s.2 = some r) (k : ps_k (pX5_becomes_S6 z a1 a2) (qX5_becomes_S6 z a1 a2) r) : pX5_becomes_S6 z a1 a2 s := by
  obtain ⟨a3, σ⟩ := s
  unfold fX5_becomes_S6 at h
  unfold pX5_becomes_S6
  refine ps_iload_n C (pc := 6) dX5_becomes_6 3 rfl ?_
  refine ps_aload_n C (pc := 7) dX5_becomes_7 0 rfl ?_
  obtain ⟨q2, hq2, h⟩ := ps_bd h
  refine ps_callVI C Z (pc := 8) (As := []) (k0 := 45) (mX5_all  hq2) (Cn := "PartSumsModel") rfl tw_954 tw_956 tw_38 tw_70 tw_957 hdX5_all rfl rfl ⟨by decide, by decide⟩ (by decide) ps_o45 rfl rfl (Nat.le_of_ble_eq_true rfl) dX5_becomes_8 rfl ?_
  refine ps_icmp_gt C (pc := 11) 42 dX5_becomes_11 (by decide) (fun hc => ?_) (fun hc => ?_)
  · have h := ps_ift hc h
    obtain rfl := Option.some.inj h
    exact ps_sub [0, 2] rfl k
  · have h := ps_iff hc h
    refine ps_aload_n C (pc := 14) dX5_becomes_14 0 rfl ?_
    refine pg_45_10 C (pc := 15) tw_806 dX5_becomes_15 ?_
    refine ps_sipush C (pc := 18) (v := 265) dX5_becomes_18 (by decide) ?_
    refine ps_sipush C (pc := 21) (v := 256) dX5_becomes_21 (by decide) ?_
    refine ps_iload_n C (pc := 24) dX5_becomes_24 1 rfl ?_
    refine ps_imul C (pc := 25) dX5_becomes_25 ?_
    refine ps_iadd C (pc := 26) dX5_becomes_26 ?_
    refine ps_iload_n C (pc := 27) dX5_becomes_27 3 rfl ?_
    refine ps_iadd C (pc := 28) dX5_becomes_28 ?_
    refine ps_aload_n C (pc := 29) dX5_becomes_29 0 rfl ?_
    refine pg_45_16 C (pc := 30) tw_812 dX5_becomes_30 ?_
    refine ps_iload_n C (pc := 33) dX5_becomes_33 3 rfl ?_
    obtain ⟨hi3, h⟩ := ps_ck_s h
    refine ps_iald C (pc := 34) 52 rfl rfl hi3 dX5_becomes_34 ?_
    obtain ⟨hi4, h⟩ := ps_ck_s h
    refine ps_iastL C (pc := 35) 47 rfl rfl hi4 dX5_becomes_35 h (fun σ5 h => ?_)
    refine ps_iincL C (pc := 36) (zz := 1) (lw := fun x6 => [(3, .int x6), (0, .ref (z_ad z 45)), (1, .int a1), (2, .int a2)]) dX5_becomes_36 3 rfl (by decide) (by decide) (fun _ => rfl) h (fun x6 h => ?_)
    refine ps_goto C (pc := 39) 6 dX5_becomes_39 (by decide) ?_
    obtain rfl := Option.some.inj h
    exact ps_sub [1, 2, 3, 0] rfl k
def fX5_becomes (a1 : Int32) (a2 : Int32) (σ : ps_S) : Option (Int32 × ps_S) :=
  ((fX5_snap σ).bind fun q1 =>
  ((ps_lp (fun s => fX5_becomes_S6 a1 a2 s.1 s.2) 100000 ((0 : Int32), q1)).bind fun e7 =>
  (ps_ck a2 256 (some ((e7.1 52 (Int32.toNatClampNeg a2)), e7)))))
set_option maxHeartbeats 4000000 in
set_option maxRecDepth 100000 in
theorem tX5_becomes {z : ps_X} (C : ps_C z cX5_becomes 4 "PartSumsModel") (Z : ps_Z z 2 45) {a1 : Int32} {a2 : Int32} {σ : ps_S}  {r : Int32 × ps_S} (h : fX5_becomes a1 a2 σ = some r) (k : ps_KI z 4 cX5_becomes r.1 r.2) : ps_at z 4 0 [(0, .ref (z_ad z 45)), (1, .int a1), (2, .int a2)] [] σ := by
  unfold fX5_becomes at h
  refine ps_aload_n C (pc := 0) dX5_becomes_0 0 rfl ?_
  obtain ⟨q1, hq1, h⟩ := ps_bd h
  refine ps_callVV C Z (pc := 1) (As := []) (k0 := 45) (mX5_snap  hq1) (Cn := "PartSumsModel") rfl tw_994 tw_996 tw_44 tw_70 tw_997 hdX5_snap rfl rfl ⟨by decide, by decide⟩ (by decide) ps_o45 rfl rfl (Nat.le_of_ble_eq_true rfl) dX5_becomes_1 rfl ?_
  refine ps_iconst C (pc := 4) (v := 0) dX5_becomes_4 (by decide) ?_
  refine ps_istore_n C (pc := 5) (lv' := [(3, .int (0 : Int32)), (0, .ref (z_ad z 45)), (1, .int a1), (2, .int a2)]) dX5_becomes_5 (by decide) rfl ?_
  obtain ⟨e7, he7, h⟩ := ps_bd h
  refine ps_sub [1, 2, 3, 0] rfl ?_
  refine ps_loop (P := pX5_becomes_S6 z a1 a2) (K := qX5_becomes_S6 z a1 a2) (fun s r h k => tX5_becomes_S6 C Z a1 a2  s r h k) _ _ _ he7 ?_
  unfold qX5_becomes_S6
  refine ps_aload_n C (pc := 42) dX5_becomes_42 0 rfl ?_
  refine pg_45_16 C (pc := 43) tw_812 dX5_becomes_43 ?_
  refine ps_iload_n C (pc := 46) dX5_becomes_46 1 rfl ?_
  obtain ⟨hi8, h⟩ := ps_ck_s h
  refine ps_iald C (pc := 47) 52 rfl rfl hi8 dX5_becomes_47 ?_
  obtain rfl := Option.some.inj h
  exact k _ _ dX5_becomes_48
def rmX5_becomes : Room := { frames := 2, cells := 0, slots := 0, locals := 45 }
theorem mX5_becomes {l : Launch} {E : ps_E} {σ : ps_S} {a1 : Int32} {a2 : Int32} {r : Int32 × ps_S}  (h : fX5_becomes a1 a2 σ = some r) : ps_MI l yX5_becomes (ps_wm yX5_becomes cX5_becomes 4 (some .int)) rmX5_becomes [.ref (e_ad E 45), .int a1, .int a2] E σ r.1 r.2 :=
  ps_metI yX5_becomes rmX5_becomes 4 (own := "PartSumsModel") r.1 (by decide +kernel) rfl (Nat.le_of_ble_eq_true rfl) rfl (fun z e1 e2 e3 e4 e5 C k => by
    subst e5
    exact tX5_becomes C (ps_Zof e1 e3 e4)  h k)
theorem hdX5_becomes : yX5_becomes.cls ≠ "java/lang/invoke/MethodHandle" ∧ yX5_becomes.cls ≠ "java/lang/invoke/VarHandle" ∧ (parseMethodDescriptor yX5_becomes.desc).map (fun d => d.parameters.length) = some 2 := by decide +kernel
def fX5_at (a1 : Int32) (a2 : Int32) (σ : ps_S) : Option (Int32 × ps_S) :=
  (ps_let (ps_ui σ 45 0 (0 : Int32)) fun σ1 =>
  ((fX5_isRow a1 σ1).bind fun q2 =>
  (if q2 = 0 then some ((-1 : Int32), σ1)
  else ((fX5_isSet a2 σ1).bind fun q3 =>
  (if q3 = 0 then some ((-1 : Int32), σ1)
  else ((fX5_numberOf a1 a2 σ1).bind fun q4 =>
  some (q4, σ1)))))))
set_option maxHeartbeats 4000000 in
set_option maxRecDepth 100000 in
theorem tX5_at {z : ps_X} (C : ps_C z cX5_at 3 "PartSumsModel") (Z : ps_Z z 3 61) {a1 : Int32} {a2 : Int32} {σ : ps_S}  {r : Int32 × ps_S} (h : fX5_at a1 a2 σ = some r) (k : ps_KI z 3 cX5_at r.1 r.2) : ps_at z 3 0 [(0, .ref (z_ad z 45)), (1, .int a1), (2, .int a2)] [] σ := by
  unfold fX5_at at h
  refine ps_aload_n C (pc := 0) dX5_at_0 0 rfl ?_
  refine ps_iconst C (pc := 1) (v := 0) dX5_at_1 (by decide) ?_
  refine pp_45_0 C (pc := 2) tw_796 dX5_at_2 h (fun σ1 h => ?_)
  refine ps_aload_n C (pc := 5) dX5_at_5 0 rfl ?_
  refine ps_iload_n C (pc := 6) dX5_at_6 1 rfl ?_
  obtain ⟨q2, hq2, h⟩ := ps_bd h
  refine ps_callVI C Z (pc := 7) (As := [.int a1]) (k0 := 45) (mX5_isRow  hq2) (Cn := "PartSumsModel") rfl tw_982 tw_984 tw_42 tw_70 tw_985 hdX5_isRow rfl rfl ⟨by decide, by decide⟩ (by decide) ps_o45 rfl rfl (Nat.le_of_ble_eq_true rfl) dX5_at_7 rfl ?_
  refine ps_if_eq C (pc := 10) 30 dX5_at_10 (by decide) (fun hc => ?_) (fun hc => ?_)
  · have h := ps_ift hc h
    refine ps_iconst C (pc := 30) (v := -1) dX5_at_30 (by decide) ?_
    obtain rfl := Option.some.inj h
    exact k _ _ dX5_at_31
  · have h := ps_iff hc h
    refine ps_aload_n C (pc := 13) dX5_at_13 0 rfl ?_
    refine ps_iload_n C (pc := 14) dX5_at_14 2 rfl ?_
    obtain ⟨q3, hq3, h⟩ := ps_bd h
    refine ps_callVI C Z (pc := 15) (As := [.int a2]) (k0 := 45) (mX5_isSet  hq3) (Cn := "PartSumsModel") rfl tw_966 tw_968 tw_40 tw_70 tw_969 hdX5_isSet rfl rfl ⟨by decide, by decide⟩ (by decide) ps_o45 rfl rfl (Nat.le_of_ble_eq_true rfl) dX5_at_15 rfl ?_
    refine ps_if_eq C (pc := 18) 30 dX5_at_18 (by decide) (fun hc => ?_) (fun hc => ?_)
    · have h := ps_ift hc h
      refine ps_iconst C (pc := 30) (v := -1) dX5_at_30 (by decide) ?_
      obtain rfl := Option.some.inj h
      exact k _ _ dX5_at_31
    · have h := ps_iff hc h
      refine ps_aload_n C (pc := 21) dX5_at_21 0 rfl ?_
      refine ps_iload_n C (pc := 22) dX5_at_22 1 rfl ?_
      refine ps_iload_n C (pc := 23) dX5_at_23 2 rfl ?_
      obtain ⟨q4, hq4, h⟩ := ps_bd h
      refine ps_callVI C Z (pc := 24) (As := [.int a1, .int a2]) (k0 := 45) (mX5_numberOf  hq4) (Cn := "PartSumsModel") rfl tw_986 tw_988 tw_43 tw_70 tw_989 hdX5_numberOf rfl rfl ⟨by decide, by decide⟩ (by decide) ps_o45 rfl rfl (Nat.le_of_ble_eq_true rfl) dX5_at_24 rfl ?_
      refine ps_goto C (pc := 27) 31 dX5_at_27 (by decide) ?_
      obtain rfl := Option.some.inj h
      exact k _ _ dX5_at_31
def rmX5_at : Room := { frames := 3, cells := 0, slots := 0, locals := 61 }
theorem mX5_at {l : Launch} {E : ps_E} {σ : ps_S} {a1 : Int32} {a2 : Int32} {r : Int32 × ps_S}  (h : fX5_at a1 a2 σ = some r) : ps_MI l yX5_at (ps_wm yX5_at cX5_at 3 (some .int)) rmX5_at [.ref (e_ad E 45), .int a1, .int a2] E σ r.1 r.2 :=
  ps_metI yX5_at rmX5_at 3 (own := "PartSumsModel") r.1 (by decide +kernel) rfl (Nat.le_of_ble_eq_true rfl) rfl (fun z e1 e2 e3 e4 e5 C k => by
    subst e5
    exact tX5_at C (ps_Zof e1 e3 e4)  h k)
theorem hdX5_at : yX5_at.cls ≠ "java/lang/invoke/MethodHandle" ∧ yX5_at.cls ≠ "java/lang/invoke/VarHandle" ∧ (parseMethodDescriptor yX5_at.desc).map (fun d => d.parameters.length) = some 2 := by decide +kernel
def fX5_put (a1 : Int32) (a2 : Int32) (a3 : Int32) (σ : ps_S) : Option (Int32 × ps_S) :=
  (ps_let (ps_ui σ 45 0 (0 : Int32)) fun σ1 =>
  ((fX5_isRow a1 σ1).bind fun q2 =>
  (if q2 = 0 then some ((-1 : Int32), σ1)
  else ((fX5_isSet a2 σ1).bind fun q3 =>
  (if q3 = 0 then some ((-1 : Int32), σ1)
  else ((fX5_snap σ1).bind fun q4 =>
  ((fX5_rest (Int32.toInt64 a3)).bind fun q5 =>
  (ps_ck (((265 : Int32) + ((256 : Int32) * a1)) + a2) 1289 ((ps_let (ps_ui q4 47 (Int32.toNatClampNeg (((265 : Int32) + ((256 : Int32) * a1)) + a2)) q5) fun σ7 =>
  ((fX5_numberOf a1 a2 σ7).bind fun q8 =>
  some (q8, σ7))))))))))))
set_option maxHeartbeats 4000000 in
set_option maxRecDepth 100000 in
theorem tX5_put {z : ps_X} (C : ps_C z cX5_put 4 "PartSumsModel") (Z : ps_Z z 3 61) {a1 : Int32} {a2 : Int32} {a3 : Int32} {σ : ps_S}  {r : Int32 × ps_S} (h : fX5_put a1 a2 a3 σ = some r) (k : ps_KI z 4 cX5_put r.1 r.2) : ps_at z 4 0 [(0, .ref (z_ad z 45)), (1, .int a1), (2, .int a2), (3, .int a3)] [] σ := by
  unfold fX5_put at h
  refine ps_aload_n C (pc := 0) dX5_put_0 0 rfl ?_
  refine ps_iconst C (pc := 1) (v := 0) dX5_put_1 (by decide) ?_
  refine pp_45_0 C (pc := 2) tw_796 dX5_put_2 h (fun σ1 h => ?_)
  refine ps_aload_n C (pc := 5) dX5_put_5 0 rfl ?_
  refine ps_iload_n C (pc := 6) dX5_put_6 1 rfl ?_
  obtain ⟨q2, hq2, h⟩ := ps_bd h
  refine ps_callVI C Z (pc := 7) (As := [.int a1]) (k0 := 45) (mX5_isRow  hq2) (Cn := "PartSumsModel") rfl tw_982 tw_984 tw_42 tw_70 tw_985 hdX5_isRow rfl rfl ⟨by decide, by decide⟩ (by decide) ps_o45 rfl rfl (Nat.le_of_ble_eq_true rfl) dX5_put_7 rfl ?_
  refine ps_if_eq C (pc := 10) 21 dX5_put_10 (by decide) (fun hc => ?_) (fun hc => ?_)
  · have h := ps_ift hc h
    refine ps_iconst C (pc := 21) (v := -1) dX5_put_21 (by decide) ?_
    obtain rfl := Option.some.inj h
    exact k _ _ dX5_put_22
  · have h := ps_iff hc h
    refine ps_aload_n C (pc := 13) dX5_put_13 0 rfl ?_
    refine ps_iload_n C (pc := 14) dX5_put_14 2 rfl ?_
    obtain ⟨q3, hq3, h⟩ := ps_bd h
    refine ps_callVI C Z (pc := 15) (As := [.int a2]) (k0 := 45) (mX5_isSet  hq3) (Cn := "PartSumsModel") rfl tw_966 tw_968 tw_40 tw_70 tw_969 hdX5_isSet rfl rfl ⟨by decide, by decide⟩ (by decide) ps_o45 rfl rfl (Nat.le_of_ble_eq_true rfl) dX5_put_15 rfl ?_
    refine ps_if_ne C (pc := 18) 23 dX5_put_18 (by decide) (fun hc => ?_) (fun hc => ?_)
    · have h := ps_iff hc h
      refine ps_aload_n C (pc := 23) dX5_put_23 0 rfl ?_
      obtain ⟨q4, hq4, h⟩ := ps_bd h
      refine ps_callVV C Z (pc := 24) (As := []) (k0 := 45) (mX5_snap  hq4) (Cn := "PartSumsModel") rfl tw_994 tw_996 tw_44 tw_70 tw_997 hdX5_snap rfl rfl ⟨by decide, by decide⟩ (by decide) ps_o45 rfl rfl (Nat.le_of_ble_eq_true rfl) dX5_put_24 rfl ?_
      refine ps_aload_n C (pc := 27) dX5_put_27 0 rfl ?_
      refine pg_45_10 C (pc := 28) tw_806 dX5_put_28 ?_
      refine ps_sipush C (pc := 31) (v := 265) dX5_put_31 (by decide) ?_
      refine ps_sipush C (pc := 34) (v := 256) dX5_put_34 (by decide) ?_
      refine ps_iload_n C (pc := 37) dX5_put_37 1 rfl ?_
      refine ps_imul C (pc := 38) dX5_put_38 ?_
      refine ps_iadd C (pc := 39) dX5_put_39 ?_
      refine ps_iload_n C (pc := 40) dX5_put_40 2 rfl ?_
      refine ps_iadd C (pc := 41) dX5_put_41 ?_
      refine ps_iload_n C (pc := 42) dX5_put_42 3 rfl ?_
      refine ps_i2l C (pc := 43) dX5_put_43 ?_
      obtain ⟨q5, hq5, h⟩ := ps_bd h
      refine ps_callSI C Z (pc := 44) (As := [.long (Int32.toInt64 a3)]) (mX5_rest  hq5) tw_998 tw_999 tw_70 tw_1000 hdX5_rest rfl rfl ⟨by decide, by decide⟩ rfl (Nat.le_of_ble_eq_true rfl) dX5_put_44 rfl ?_
      obtain ⟨hi6, h⟩ := ps_ck_s h
      refine ps_iastL C (pc := 47) 47 rfl rfl hi6 dX5_put_47 h (fun σ7 h => ?_)
      refine ps_aload_n C (pc := 48) dX5_put_48 0 rfl ?_
      refine ps_iload_n C (pc := 49) dX5_put_49 1 rfl ?_
      refine ps_iload_n C (pc := 50) dX5_put_50 2 rfl ?_
      obtain ⟨q8, hq8, h⟩ := ps_bd h
      refine ps_callVI C Z (pc := 51) (As := [.int a1, .int a2]) (k0 := 45) (mX5_numberOf  hq8) (Cn := "PartSumsModel") rfl tw_986 tw_988 tw_43 tw_70 tw_989 hdX5_numberOf rfl rfl ⟨by decide, by decide⟩ (by decide) ps_o45 rfl rfl (Nat.le_of_ble_eq_true rfl) dX5_put_51 rfl ?_
      obtain rfl := Option.some.inj h
      exact k _ _ dX5_put_54
    · have h := ps_ift hc h
      refine ps_iconst C (pc := 21) (v := -1) dX5_put_21 (by decide) ?_
      obtain rfl := Option.some.inj h
      exact k _ _ dX5_put_22
def rmX5_put : Room := { frames := 3, cells := 0, slots := 0, locals := 61 }
theorem mX5_put {l : Launch} {E : ps_E} {σ : ps_S} {a1 : Int32} {a2 : Int32} {a3 : Int32} {r : Int32 × ps_S}  (h : fX5_put a1 a2 a3 σ = some r) : ps_MI l yX5_put (ps_wm yX5_put cX5_put 4 (some .int)) rmX5_put [.ref (e_ad E 45), .int a1, .int a2, .int a3] E σ r.1 r.2 :=
  ps_metI yX5_put rmX5_put 4 (own := "PartSumsModel") r.1 (by decide +kernel) rfl (Nat.le_of_ble_eq_true rfl) rfl (fun z e1 e2 e3 e4 e5 C k => by
    subst e5
    exact tX5_put C (ps_Zof e1 e3 e4)  h k)
theorem hdX5_put : yX5_put.cls ≠ "java/lang/invoke/MethodHandle" ∧ yX5_put.cls ≠ "java/lang/invoke/VarHandle" ∧ (parseMethodDescriptor yX5_put.desc).map (fun d => d.parameters.length) = some 3 := by decide +kernel
def pX5_isTogether_S13 (z : ps_X) (a1 : Int32) (σ : ps_S) (s : Int32 × Int32) : Prop := ps_at z 5 13 [(0, .ref (z_ad z 45)), (1, .int a1), (2, .int s.1), (3, .int s.2)] [] σ
def qX5_isTogether_S13 (z : ps_X) (a1 : Int32) (σ : ps_S) (x : (Int32)) : Prop := match x with | y => ps_at z 5 66 [(1, .int a1), (2, .int y)] [] σ
def pX5_isTogether_S23 (z : ps_X) (a1 : Int32) (a3 : Int32) (σ : ps_S) (s : Int32 × Int32) : Prop := ps_at z 5 23 [(0, .ref (z_ad z 45)), (1, .int a1), (2, .int s.1), (3, .int a3), (4, .int s.2)] [] σ
def qX5_isTogether_S23 (z : ps_X) (a1 : Int32) (a3 : Int32) (σ : ps_S) (x : (Int32)) : Prop := match x with | y => ps_at z 5 63 [(0, .ref (z_ad z 45)), (1, .int a1), (2, .int y), (3, .int a3)] [] σ
def fX5_isTogether_J57 (a1 : Int32) (a2 : Int32) (a3 : Int32) (a4 : Int32) (σ : ps_S) : Option ((Int32 × Int32) ⊕ ((Int32))) :=
  (ps_let (a4 + (1 : Int32)) fun x4 =>
  some (.inl (a2, x4)))
set_option maxHeartbeats 4000000 in
set_option maxRecDepth 100000 in
theorem tX5_isTogether_J57 {z : ps_X} (C : ps_C z cX5_isTogether 5 "PartSumsModel") (Z : ps_Z z 1 21) {a1 : Int32} {a2 : Int32} {a3 : Int32} {a4 : Int32} {σ : ps_S}  {r : (Int32 × Int32) ⊕ ((Int32))} (h : fX5_isTogether_J57 a1 a2 a3 a4 σ = some r) (k : ps_k (pX5_isTogether_S23 z a1 a3 σ) (qX5_isTogether_S23 z a1 a3 σ) r) : ps_at z 5 57 [(0, .ref (z_ad z 45)), (1, .int a1), (2, .int a2), (3, .int a3), (4, .int a4)] [] σ := by
  unfold fX5_isTogether_J57 at h
  refine ps_iincL C (pc := 57) (zz := 1) (lw := fun x4 => [(4, .int x4), (0, .ref (z_ad z 45)), (1, .int a1), (2, .int a2), (3, .int a3)]) dX5_isTogether_57 4 rfl (by decide) (by decide) (fun _ => rfl) h (fun x4 h => ?_)
  refine ps_goto C (pc := 60) 23 dX5_isTogether_60 (by decide) ?_
  obtain rfl := Option.some.inj h
  exact ps_sub [1, 2, 3, 4, 0] rfl k
def fX5_isTogether_S23 (a1 : Int32) (a3 : Int32) (σ : ps_S) (a2 : Int32) (a4 : Int32) : Option ((Int32 × Int32) ⊕ ((Int32))) :=
  ((fX5_things σ).bind fun q2 =>
  (if q2 ≤ a4 then some (.inr a2)
  else ((fX5_has a3 a4).bind fun q3 =>
  (if q3 = 0 then fX5_isTogether_J57 a1 a2 a3 a4 σ
  else (ps_ck ((257 : Int32) + a4) 1289 ((ps_let (a2 ||| ((σ.1 47 (Int32.toNatClampNeg ((257 : Int32) + a4))) &&& a1)) fun x6 =>
  fX5_isTogether_J57 a1 x6 a3 a4 σ)))))))
set_option maxHeartbeats 4000000 in
set_option maxRecDepth 100000 in
theorem tX5_isTogether_S23 {z : ps_X} (C : ps_C z cX5_isTogether 5 "PartSumsModel") (Z : ps_Z z 1 21) (a1 : Int32) (a3 : Int32) (σ : ps_S)  (s : Int32 × Int32) (r : (Int32 × Int32) ⊕ ((Int32))) (h : fX5_isTogether_S23 a1 a3 σ s.1 s.2 = some r) (k : ps_k (pX5_isTogether_S23 z a1 a3 σ) (qX5_isTogether_S23 z a1 a3 σ) r) : pX5_isTogether_S23 z a1 a3 σ s := by
  obtain ⟨a2, a4⟩ := s
  unfold fX5_isTogether_S23 at h
  unfold pX5_isTogether_S23
  refine ps_iload C (pc := 23) dX5_isTogether_23 4 rfl ?_
  refine ps_aload_n C (pc := 25) dX5_isTogether_25 0 rfl ?_
  obtain ⟨q2, hq2, h⟩ := ps_bd h
  refine ps_callVI C Z (pc := 26) (As := []) (k0 := 45) (mX5_things  hq2) (Cn := "PartSumsModel") rfl tw_946 tw_948 tw_36 tw_70 tw_949 hdX5_things rfl rfl ⟨by decide, by decide⟩ (by decide) ps_o45 rfl rfl (Nat.le_of_ble_eq_true rfl) dX5_isTogether_26 rfl ?_
  refine ps_icmp_ge C (pc := 29) 63 dX5_isTogether_29 (by decide) (fun hc => ?_) (fun hc => ?_)
  · have h := ps_ift hc h
    obtain rfl := Option.some.inj h
    exact ps_sub [0, 1, 2, 3] rfl k
  · have h := ps_iff hc h
    refine ps_iload_n C (pc := 32) dX5_isTogether_32 3 rfl ?_
    refine ps_iload C (pc := 33) dX5_isTogether_33 4 rfl ?_
    obtain ⟨q3, hq3, h⟩ := ps_bd h
    refine ps_callSI C Z (pc := 35) (As := [.int a3, .int a4]) (mX5_has  hq3) tw_915 tw_916 tw_70 tw_917 hdX5_has rfl rfl ⟨by decide, by decide⟩ rfl (Nat.le_of_ble_eq_true rfl) dX5_isTogether_35 rfl ?_
    refine ps_if_eq C (pc := 38) 57 dX5_isTogether_38 (by decide) (fun hc => ?_) (fun hc => ?_)
    · have h := ps_ift hc h
      exact ps_sub [0, 1, 2, 3, 4] rfl (tX5_isTogether_J57 C Z  h k)
    · have h := ps_iff hc h
      refine ps_iload_n C (pc := 41) dX5_isTogether_41 2 rfl ?_
      refine ps_aload_n C (pc := 42) dX5_isTogether_42 0 rfl ?_
      refine pg_45_10 C (pc := 43) tw_806 dX5_isTogether_43 ?_
      refine ps_sipush C (pc := 46) (v := 257) dX5_isTogether_46 (by decide) ?_
      refine ps_iload C (pc := 49) dX5_isTogether_49 4 rfl ?_
      refine ps_iadd C (pc := 51) dX5_isTogether_51 ?_
      obtain ⟨hi5, h⟩ := ps_ck_s h
      refine ps_iald C (pc := 52) 47 rfl rfl hi5 dX5_isTogether_52 ?_
      refine ps_iload_n C (pc := 53) dX5_isTogether_53 1 rfl ?_
      refine ps_iand C (pc := 54) dX5_isTogether_54 ?_
      refine ps_ior C (pc := 55) dX5_isTogether_55 ?_
      refine ps_istoreL_n C (pc := 56) (lw := fun x6 => [(2, .int x6), (0, .ref (z_ad z 45)), (1, .int a1), (3, .int a3), (4, .int a4)]) dX5_isTogether_56 (by decide) (fun _ => rfl) h (fun x6 h => ?_)
      exact ps_sub [1, 2, 0, 3, 4] rfl (tX5_isTogether_J57 C Z  h k)
def fX5_isTogether_S13 (a1 : Int32) (σ : ps_S) (a2 : Int32) (a3 : Int32) : Option ((Int32 × Int32) ⊕ ((Int32))) :=
  (if a2 = a3 then some (.inr a2)
  else ((ps_lp (fun s => fX5_isTogether_S23 a1 a2 σ s.1 s.2) 100000 (a2, (0 : Int32))).bind fun e7 =>
  some (.inl (e7, a2))))
set_option maxHeartbeats 4000000 in
set_option maxRecDepth 100000 in
theorem tX5_isTogether_S13 {z : ps_X} (C : ps_C z cX5_isTogether 5 "PartSumsModel") (Z : ps_Z z 1 21) (a1 : Int32) (σ : ps_S)  (s : Int32 × Int32) (r : (Int32 × Int32) ⊕ ((Int32))) (h : fX5_isTogether_S13 a1 σ s.1 s.2 = some r) (k : ps_k (pX5_isTogether_S13 z a1 σ) (qX5_isTogether_S13 z a1 σ) r) : pX5_isTogether_S13 z a1 σ s := by
  obtain ⟨a2, a3⟩ := s
  unfold fX5_isTogether_S13 at h
  unfold pX5_isTogether_S13
  refine ps_iload_n C (pc := 13) dX5_isTogether_13 2 rfl ?_
  refine ps_iload_n C (pc := 14) dX5_isTogether_14 3 rfl ?_
  refine ps_icmp_eq C (pc := 15) 66 dX5_isTogether_15 (by decide) (fun hc => ?_) (fun hc => ?_)
  · have h := ps_ift hc h
    obtain rfl := Option.some.inj h
    exact ps_sub [1, 2] rfl k
  · have h := ps_iff hc h
    refine ps_iload_n C (pc := 18) dX5_isTogether_18 2 rfl ?_
    refine ps_istore_n C (pc := 19) (lv' := [(3, .int a2), (0, .ref (z_ad z 45)), (1, .int a1), (2, .int a2)]) dX5_isTogether_19 (by decide) rfl ?_
    refine ps_iconst C (pc := 20) (v := 0) dX5_isTogether_20 (by decide) ?_
    refine ps_istore C (pc := 21) (lv' := [(4, .int (0 : Int32)), (3, .int a2), (0, .ref (z_ad z 45)), (1, .int a1), (2, .int a2)]) dX5_isTogether_21 (by decide) rfl ?_
    obtain ⟨e7, he7, h⟩ := ps_bd h
    refine ps_sub [2, 3, 4, 1, 0] rfl ?_
    refine ps_loop (P := pX5_isTogether_S23 z a1 a2 σ) (K := qX5_isTogether_S23 z a1 a2 σ) (fun s r h k => tX5_isTogether_S23 C Z a1 a2 σ  s r h k) _ _ _ he7 ?_
    unfold qX5_isTogether_S23
    refine ps_goto C (pc := 63) 13 dX5_isTogether_63 (by decide) ?_
    obtain rfl := Option.some.inj h
    exact ps_sub [0, 1, 2, 3] rfl k
def fX5_isTogether (a1 : Int32) (σ : ps_S) : Option (Int32) :=
  (if a1 = 0 then some (0 : Int32)
  else (ps_let (a1 &&& (-a1)) fun x1 =>
  ((ps_lp (fun s => fX5_isTogether_S13 a1 σ s.1 s.2) 100000 (x1, (0 : Int32))).bind fun e8 =>
  (if e8 = a1 then some (1 : Int32)
  else some (0 : Int32)))))
set_option maxHeartbeats 4000000 in
set_option maxRecDepth 100000 in
theorem tX5_isTogether {z : ps_X} (C : ps_C z cX5_isTogether 5 "PartSumsModel") (Z : ps_Z z 1 21) {a1 : Int32} {σ : ps_S}  {r : Int32} (h : fX5_isTogether a1 σ = some r) (k : ps_KZ z 5 cX5_isTogether r σ) : ps_at z 5 0 [(0, .ref (z_ad z 45)), (1, .int a1)] [] σ := by
  unfold fX5_isTogether at h
  refine ps_iload_n C (pc := 0) dX5_isTogether_0 1 rfl ?_
  refine ps_if_ne C (pc := 1) 6 dX5_isTogether_1 (by decide) (fun hc => ?_) (fun hc => ?_)
  · have h := ps_iff hc h
    refine ps_iload_n C (pc := 6) dX5_isTogether_6 1 rfl ?_
    refine ps_iload_n C (pc := 7) dX5_isTogether_7 1 rfl ?_
    refine ps_ineg C (pc := 8) dX5_isTogether_8 ?_
    refine ps_iand C (pc := 9) dX5_isTogether_9 ?_
    refine ps_istoreL_n C (pc := 10) (lw := fun x1 => [(2, .int x1), (0, .ref (z_ad z 45)), (1, .int a1)]) dX5_isTogether_10 (by decide) (fun _ => rfl) h (fun x1 h => ?_)
    refine ps_iconst C (pc := 11) (v := 0) dX5_isTogether_11 (by decide) ?_
    refine ps_istore_n C (pc := 12) (lv' := [(3, .int (0 : Int32)), (2, .int x1), (0, .ref (z_ad z 45)), (1, .int a1)]) dX5_isTogether_12 (by decide) rfl ?_
    obtain ⟨e8, he8, h⟩ := ps_bd h
    refine ps_sub [2, 3, 1, 0] rfl ?_
    refine ps_loop (P := pX5_isTogether_S13 z a1 σ) (K := qX5_isTogether_S13 z a1 σ) (fun s r h k => tX5_isTogether_S13 C Z a1 σ  s r h k) _ _ _ he8 ?_
    unfold qX5_isTogether_S13
    refine ps_iload_n C (pc := 66) dX5_isTogether_66 1 rfl ?_
    refine ps_iload_n C (pc := 67) dX5_isTogether_67 0 rfl ?_
    refine ps_icmp_ne C (pc := 68) 75 dX5_isTogether_68 (by decide) (fun hc => ?_) (fun hc => ?_)
    · have h := ps_iff hc h
      refine ps_iconst C (pc := 75) (v := 0) dX5_isTogether_75 (by decide) ?_
      obtain rfl := Option.some.inj h
      exact k _ _ (Or.inl rfl) dX5_isTogether_76
    · have h := ps_ift hc h
      refine ps_iconst C (pc := 71) (v := 1) dX5_isTogether_71 (by decide) ?_
      refine ps_goto C (pc := 72) 76 dX5_isTogether_72 (by decide) ?_
      obtain rfl := Option.some.inj h
      exact k _ _ (Or.inr rfl) dX5_isTogether_76
  · have h := ps_ift hc h
    refine ps_iconst C (pc := 4) (v := 0) dX5_isTogether_4 (by decide) ?_
    obtain rfl := Option.some.inj h
    exact k _ _ (Or.inl rfl) dX5_isTogether_5
def rmX5_isTogether : Room := { frames := 1, cells := 0, slots := 0, locals := 21 }
theorem mX5_isTogether {l : Launch} {E : ps_E} {σ : ps_S} {a1 : Int32} {r : Int32}  (h : fX5_isTogether a1 σ = some r) : ps_MI l yX5_isTogether (ps_wm yX5_isTogether cX5_isTogether 5 (some .boolean)) rmX5_isTogether [.ref (e_ad E 45), .int a1] E σ r σ :=
  ps_metZ yX5_isTogether rmX5_isTogether 5 (own := "PartSumsModel") r (by decide +kernel) rfl (Nat.le_of_ble_eq_true rfl) rfl (fun z e1 e2 e3 e4 e5 C k => by
    subst e5
    exact tX5_isTogether C (ps_Zof e1 e3 e4)  h k)
theorem hdX5_isTogether : yX5_isTogether.cls ≠ "java/lang/invoke/MethodHandle" ∧ yX5_isTogether.cls ≠ "java/lang/invoke/VarHandle" ∧ (parseMethodDescriptor yX5_isTogether.desc).map (fun d => d.parameters.length) = some 1 := by decide +kernel
def fX5_isFull (a1 : Int32) (σ : ps_S) : Option (Int32) :=
  ((fX5_pairsIn a1 σ).bind fun q1 =>
  ((fX5_bits a1).bind fun q2 =>
  ((fX5_bits a1).bind fun q3 =>
  (if q1 = ((q2 * (q3 - (1 : Int32))) / (2 : Int32)) then some (1 : Int32)
  else some (0 : Int32)))))
set_option maxHeartbeats 4000000 in
set_option maxRecDepth 100000 in
theorem tX5_isFull {z : ps_X} (C : ps_C z cX5_isFull 2 "PartSumsModel") (Z : ps_Z z 2 45) {a1 : Int32} {σ : ps_S}  {r : Int32} (h : fX5_isFull a1 σ = some r) (k : ps_KZ z 2 cX5_isFull r σ) : ps_at z 2 0 [(0, .ref (z_ad z 45)), (1, .int a1)] [] σ := by
  unfold fX5_isFull at h
  refine ps_aload_n C (pc := 0) dX5_isFull_0 0 rfl ?_
  refine ps_iload_n C (pc := 1) dX5_isFull_1 1 rfl ?_
  obtain ⟨q1, hq1, h⟩ := ps_bd h
  refine ps_callVI C Z (pc := 2) (As := [.int a1]) (k0 := 45) (mX5_pairsIn  hq1) (Cn := "PartSumsModel") rfl tw_958 tw_960 tw_39 tw_70 tw_961 hdX5_pairsIn rfl rfl ⟨by decide, by decide⟩ (by decide) ps_o45 rfl rfl (Nat.le_of_ble_eq_true rfl) dX5_isFull_2 rfl ?_
  refine ps_iload_n C (pc := 5) dX5_isFull_5 1 rfl ?_
  obtain ⟨q2, hq2, h⟩ := ps_bd h
  refine ps_callSI C Z (pc := 6) (As := [.int a1]) (mX5_bits  hq2) tw_922 tw_923 tw_70 tw_924 hdX5_bits rfl rfl ⟨by decide, by decide⟩ rfl (Nat.le_of_ble_eq_true rfl) dX5_isFull_6 rfl ?_
  refine ps_iload_n C (pc := 9) dX5_isFull_9 1 rfl ?_
  obtain ⟨q3, hq3, h⟩ := ps_bd h
  refine ps_callSI C Z (pc := 10) (As := [.int a1]) (mX5_bits  hq3) tw_922 tw_923 tw_70 tw_924 hdX5_bits rfl rfl ⟨by decide, by decide⟩ rfl (Nat.le_of_ble_eq_true rfl) dX5_isFull_10 rfl ?_
  refine ps_iconst C (pc := 13) (v := 1) dX5_isFull_13 (by decide) ?_
  refine ps_isub C (pc := 14) dX5_isFull_14 ?_
  refine ps_imul C (pc := 15) dX5_isFull_15 ?_
  refine ps_iconst C (pc := 16) (v := 2) dX5_isFull_16 (by decide) ?_
  refine ps_idiv C (pc := 17) dX5_isFull_17 (by decide) ?_
  refine ps_icmp_ne C (pc := 18) 25 dX5_isFull_18 (by decide) (fun hc => ?_) (fun hc => ?_)
  · have h := ps_iff hc h
    refine ps_iconst C (pc := 25) (v := 0) dX5_isFull_25 (by decide) ?_
    obtain rfl := Option.some.inj h
    exact k _ _ (Or.inl rfl) dX5_isFull_26
  · have h := ps_ift hc h
    refine ps_iconst C (pc := 21) (v := 1) dX5_isFull_21 (by decide) ?_
    refine ps_goto C (pc := 22) 26 dX5_isFull_22 (by decide) ?_
    obtain rfl := Option.some.inj h
    exact k _ _ (Or.inr rfl) dX5_isFull_26
def rmX5_isFull : Room := { frames := 2, cells := 0, slots := 0, locals := 45 }
theorem mX5_isFull {l : Launch} {E : ps_E} {σ : ps_S} {a1 : Int32} {r : Int32}  (h : fX5_isFull a1 σ = some r) : ps_MI l yX5_isFull (ps_wm yX5_isFull cX5_isFull 2 (some .boolean)) rmX5_isFull [.ref (e_ad E 45), .int a1] E σ r σ :=
  ps_metZ yX5_isFull rmX5_isFull 2 (own := "PartSumsModel") r (by decide +kernel) rfl (Nat.le_of_ble_eq_true rfl) rfl (fun z e1 e2 e3 e4 e5 C k => by
    subst e5
    exact tX5_isFull C (ps_Zof e1 e3 e4)  h k)
theorem hdX5_isFull : yX5_isFull.cls ≠ "java/lang/invoke/MethodHandle" ∧ yX5_isFull.cls ≠ "java/lang/invoke/VarHandle" ∧ (parseMethodDescriptor yX5_isFull.desc).map (fun d => d.parameters.length) = some 1 := by decide +kernel
def fX5_laid (a1 : Int32) (a2 : Int32) (σ : ps_S) : Option (Int32) :=
  (if a1 = (0 : Int32) then (ps_ck ((1 : Int32) + a2) 1289 (some (σ.1 47 (Int32.toNatClampNeg ((1 : Int32) + a2)))))
  else (if a1 = (1 : Int32) then (ps_ck ((1 : Int32) + a2) 1289 ((if (σ.1 47 (Int32.toNatClampNeg ((1 : Int32) + a2))) ≤ 0 then some (0 : Int32)
  else some (1 : Int32))))
  else (if a1 = (2 : Int32) then ((fX5_pairsIn a2 σ).bind fun q3 =>
  (if q3 = 0 then some (1 : Int32)
  else some (0 : Int32)))
  else (if a1 = (3 : Int32) then ((fX5_isFull a2 σ).bind fun q4 =>
  (if q4 = 0 then some (0 : Int32)
  else some (1 : Int32)))
  else (if a1 = (4 : Int32) then ((fX5_pairsIn a2 σ).bind fun q5 =>
  ((fX5_rest ((1 : Int64) <<< (Int32.toInt64 q5 &&& 63))).bind fun q6 =>
  some q6))
  else (if a1 = (5 : Int32) then ((fX5_isTogether a2 σ).bind fun q7 =>
  (if q7 = 0 then some (0 : Int32)
  else some (1 : Int32)))
  else (if a1 = (6 : Int32) then ((fX5_bits a2).bind fun q8 =>
  some q8)
  else (if a2 = 0 then some (1 : Int32)
  else some (0 : Int32)))))))))
set_option maxHeartbeats 4000000 in
set_option maxRecDepth 100000 in
theorem tX5_laid {z : ps_X} (C : ps_C z cX5_laid 3 "PartSumsModel") (Z : ps_Z z 3 66) {a1 : Int32} {a2 : Int32} {σ : ps_S}  {r : Int32} (h : fX5_laid a1 a2 σ = some r) (k : ps_KI z 3 cX5_laid r σ) : ps_at z 3 0 [(0, .ref (z_ad z 45)), (1, .int a1), (2, .int a2)] [] σ := by
  unfold fX5_laid at h
  refine ps_iload_n C (pc := 0) dX5_laid_0 1 rfl ?_
  by_cases hc1_0 : a1 = (0 : Int32)
  · have h := ps_ift hc1_0 h
    refine ps_tsw C (pc := 1) 0 hc1_0 44 dX5_laid_1 (by decide) (by decide) (by rfl) (by decide) ?_
    refine ps_aload_n C (pc := 44) dX5_laid_44 0 rfl ?_
    refine pg_45_10 C (pc := 45) tw_806 dX5_laid_45 ?_
    refine ps_iconst C (pc := 48) (v := 1) dX5_laid_48 (by decide) ?_
    refine ps_iload_n C (pc := 49) dX5_laid_49 2 rfl ?_
    refine ps_iadd C (pc := 50) dX5_laid_50 ?_
    obtain ⟨hi1, h⟩ := ps_ck_s h
    refine ps_iald C (pc := 51) 47 rfl rfl hi1 dX5_laid_51 ?_
    obtain rfl := Option.some.inj h
    exact k _ _ dX5_laid_52
  replace h := ps_iff hc1_0 h
  by_cases hc1_1 : a1 = (1 : Int32)
  · have h := ps_ift hc1_1 h
    refine ps_tsw C (pc := 1) 1 hc1_1 53 dX5_laid_1 (by decide) (by decide) (by rfl) (by decide) ?_
    refine ps_aload_n C (pc := 53) dX5_laid_53 0 rfl ?_
    refine pg_45_10 C (pc := 54) tw_806 dX5_laid_54 ?_
    refine ps_iconst C (pc := 57) (v := 1) dX5_laid_57 (by decide) ?_
    refine ps_iload_n C (pc := 58) dX5_laid_58 2 rfl ?_
    refine ps_iadd C (pc := 59) dX5_laid_59 ?_
    obtain ⟨hi2, h⟩ := ps_ck_s h
    refine ps_iald C (pc := 60) 47 rfl rfl hi2 dX5_laid_60 ?_
    refine ps_if_le C (pc := 61) 68 dX5_laid_61 (by decide) (fun hc => ?_) (fun hc => ?_)
    · have h := ps_ift hc h
      refine ps_iconst C (pc := 68) (v := 0) dX5_laid_68 (by decide) ?_
      obtain rfl := Option.some.inj h
      exact k _ _ dX5_laid_69
    · have h := ps_iff hc h
      refine ps_iconst C (pc := 64) (v := 1) dX5_laid_64 (by decide) ?_
      refine ps_goto C (pc := 65) 69 dX5_laid_65 (by decide) ?_
      obtain rfl := Option.some.inj h
      exact k _ _ dX5_laid_69
  replace h := ps_iff hc1_1 h
  by_cases hc1_2 : a1 = (2 : Int32)
  · have h := ps_ift hc1_2 h
    refine ps_tsw C (pc := 1) 2 hc1_2 70 dX5_laid_1 (by decide) (by decide) (by rfl) (by decide) ?_
    refine ps_aload_n C (pc := 70) dX5_laid_70 0 rfl ?_
    refine ps_iload_n C (pc := 71) dX5_laid_71 2 rfl ?_
    obtain ⟨q3, hq3, h⟩ := ps_bd h
    refine ps_callVI C Z (pc := 72) (As := [.int a2]) (k0 := 45) (mX5_pairsIn  hq3) (Cn := "PartSumsModel") rfl tw_958 tw_960 tw_39 tw_70 tw_961 hdX5_pairsIn rfl rfl ⟨by decide, by decide⟩ (by decide) ps_o45 rfl rfl (Nat.le_of_ble_eq_true rfl) dX5_laid_72 rfl ?_
    refine ps_if_ne C (pc := 75) 82 dX5_laid_75 (by decide) (fun hc => ?_) (fun hc => ?_)
    · have h := ps_iff hc h
      refine ps_iconst C (pc := 82) (v := 0) dX5_laid_82 (by decide) ?_
      obtain rfl := Option.some.inj h
      exact k _ _ dX5_laid_83
    · have h := ps_ift hc h
      refine ps_iconst C (pc := 78) (v := 1) dX5_laid_78 (by decide) ?_
      refine ps_goto C (pc := 79) 83 dX5_laid_79 (by decide) ?_
      obtain rfl := Option.some.inj h
      exact k _ _ dX5_laid_83
  replace h := ps_iff hc1_2 h
  by_cases hc1_3 : a1 = (3 : Int32)
  · have h := ps_ift hc1_3 h
    refine ps_tsw C (pc := 1) 3 hc1_3 84 dX5_laid_1 (by decide) (by decide) (by rfl) (by decide) ?_
    refine ps_aload_n C (pc := 84) dX5_laid_84 0 rfl ?_
    refine ps_iload_n C (pc := 85) dX5_laid_85 2 rfl ?_
    obtain ⟨q4, hq4, h⟩ := ps_bd h
    refine ps_callVI C Z (pc := 86) (As := [.int a2]) (k0 := 45) (mX5_isFull  hq4) (Cn := "PartSumsModel") rfl tw_1010 tw_1012 tw_46 tw_70 tw_1013 hdX5_isFull rfl rfl ⟨by decide, by decide⟩ (by decide) ps_o45 rfl rfl (Nat.le_of_ble_eq_true rfl) dX5_laid_86 rfl ?_
    refine ps_if_eq C (pc := 89) 96 dX5_laid_89 (by decide) (fun hc => ?_) (fun hc => ?_)
    · have h := ps_ift hc h
      refine ps_iconst C (pc := 96) (v := 0) dX5_laid_96 (by decide) ?_
      obtain rfl := Option.some.inj h
      exact k _ _ dX5_laid_97
    · have h := ps_iff hc h
      refine ps_iconst C (pc := 92) (v := 1) dX5_laid_92 (by decide) ?_
      refine ps_goto C (pc := 93) 97 dX5_laid_93 (by decide) ?_
      obtain rfl := Option.some.inj h
      exact k _ _ dX5_laid_97
  replace h := ps_iff hc1_3 h
  by_cases hc1_4 : a1 = (4 : Int32)
  · have h := ps_ift hc1_4 h
    refine ps_tsw C (pc := 1) 4 hc1_4 98 dX5_laid_1 (by decide) (by decide) (by rfl) (by decide) ?_
    refine ps_lconst C (pc := 98) (v := 1) dX5_laid_98 (by decide) ?_
    refine ps_aload_n C (pc := 99) dX5_laid_99 0 rfl ?_
    refine ps_iload_n C (pc := 100) dX5_laid_100 2 rfl ?_
    obtain ⟨q5, hq5, h⟩ := ps_bd h
    refine ps_callVI C Z (pc := 101) (As := [.int a2]) (k0 := 45) (mX5_pairsIn  hq5) (Cn := "PartSumsModel") rfl tw_958 tw_960 tw_39 tw_70 tw_961 hdX5_pairsIn rfl rfl ⟨by decide, by decide⟩ (by decide) ps_o45 rfl rfl (Nat.le_of_ble_eq_true rfl) dX5_laid_101 rfl ?_
    refine ps_lshl C (pc := 104) dX5_laid_104 ?_
    obtain ⟨q6, hq6, h⟩ := ps_bd h
    refine ps_callSI C Z (pc := 105) (As := [.long ((1 : Int64) <<< (Int32.toInt64 q5 &&& 63))]) (mX5_rest  hq6) tw_998 tw_999 tw_70 tw_1000 hdX5_rest rfl rfl ⟨by decide, by decide⟩ rfl (Nat.le_of_ble_eq_true rfl) dX5_laid_105 rfl ?_
    obtain rfl := Option.some.inj h
    exact k _ _ dX5_laid_108
  replace h := ps_iff hc1_4 h
  by_cases hc1_5 : a1 = (5 : Int32)
  · have h := ps_ift hc1_5 h
    refine ps_tsw C (pc := 1) 5 hc1_5 109 dX5_laid_1 (by decide) (by decide) (by rfl) (by decide) ?_
    refine ps_aload_n C (pc := 109) dX5_laid_109 0 rfl ?_
    refine ps_iload_n C (pc := 110) dX5_laid_110 2 rfl ?_
    obtain ⟨q7, hq7, h⟩ := ps_bd h
    refine ps_callVI C Z (pc := 111) (As := [.int a2]) (k0 := 45) (mX5_isTogether  hq7) (Cn := "PartSumsModel") rfl tw_1014 tw_1016 tw_47 tw_70 tw_1017 hdX5_isTogether rfl rfl ⟨by decide, by decide⟩ (by decide) ps_o45 rfl rfl (Nat.le_of_ble_eq_true rfl) dX5_laid_111 rfl ?_
    refine ps_if_eq C (pc := 114) 121 dX5_laid_114 (by decide) (fun hc => ?_) (fun hc => ?_)
    · have h := ps_ift hc h
      refine ps_iconst C (pc := 121) (v := 0) dX5_laid_121 (by decide) ?_
      obtain rfl := Option.some.inj h
      exact k _ _ dX5_laid_122
    · have h := ps_iff hc h
      refine ps_iconst C (pc := 117) (v := 1) dX5_laid_117 (by decide) ?_
      refine ps_goto C (pc := 118) 122 dX5_laid_118 (by decide) ?_
      obtain rfl := Option.some.inj h
      exact k _ _ dX5_laid_122
  replace h := ps_iff hc1_5 h
  by_cases hc1_6 : a1 = (6 : Int32)
  · have h := ps_ift hc1_6 h
    refine ps_tsw C (pc := 1) 6 hc1_6 123 dX5_laid_1 (by decide) (by decide) (by rfl) (by decide) ?_
    refine ps_iload_n C (pc := 123) dX5_laid_123 2 rfl ?_
    obtain ⟨q8, hq8, h⟩ := ps_bd h
    refine ps_callSI C Z (pc := 124) (As := [.int a2]) (mX5_bits  hq8) tw_922 tw_923 tw_70 tw_924 hdX5_bits rfl rfl ⟨by decide, by decide⟩ rfl (Nat.le_of_ble_eq_true rfl) dX5_laid_124 rfl ?_
    obtain rfl := Option.some.inj h
    exact k _ _ dX5_laid_127
  replace h := ps_iff hc1_6 h
  refine ps_tsd C (pc := 1) 128 dX5_laid_1 (by have q0 := ps_ni hc1_0 (n := 0) (by decide); have q1 := ps_ni hc1_1 (n := 1) (by decide); have q2 := ps_ni hc1_2 (n := 2) (by decide); have q3 := ps_ni hc1_3 (n := 3) (by decide); have q4 := ps_ni hc1_4 (n := 4) (by decide); have q5 := ps_ni hc1_5 (n := 5) (by decide); have q6 := ps_ni hc1_6 (n := 6) (by decide); omega) (by decide) ?_
  refine ps_iload_n C (pc := 128) dX5_laid_128 2 rfl ?_
  refine ps_if_ne C (pc := 129) 136 dX5_laid_129 (by decide) (fun hc => ?_) (fun hc => ?_)
  · have h := ps_iff hc h
    refine ps_iconst C (pc := 136) (v := 0) dX5_laid_136 (by decide) ?_
    obtain rfl := Option.some.inj h
    exact k _ _ dX5_laid_137
  · have h := ps_ift hc h
    refine ps_iconst C (pc := 132) (v := 1) dX5_laid_132 (by decide) ?_
    refine ps_goto C (pc := 133) 137 dX5_laid_133 (by decide) ?_
    obtain rfl := Option.some.inj h
    exact k _ _ dX5_laid_137
def rmX5_laid : Room := { frames := 3, cells := 0, slots := 0, locals := 66 }
theorem mX5_laid {l : Launch} {E : ps_E} {σ : ps_S} {a1 : Int32} {a2 : Int32} {r : Int32}  (h : fX5_laid a1 a2 σ = some r) : ps_MI l yX5_laid (ps_wm yX5_laid cX5_laid 3 (some .int)) rmX5_laid [.ref (e_ad E 45), .int a1, .int a2] E σ r σ :=
  ps_metI yX5_laid rmX5_laid 3 (own := "PartSumsModel") r (by decide +kernel) rfl (Nat.le_of_ble_eq_true rfl) rfl (fun z e1 e2 e3 e4 e5 C k => by
    subst e5
    exact tX5_laid C (ps_Zof e1 e3 e4)  h k)
theorem hdX5_laid : yX5_laid.cls ≠ "java/lang/invoke/MethodHandle" ∧ yX5_laid.cls ≠ "java/lang/invoke/VarHandle" ∧ (parseMethodDescriptor yX5_laid.desc).map (fun d => d.parameters.length) = some 2 := by decide +kernel
def pX5_lay_S27 (z : ps_X) (a1 : Int32) (a2 : Int32) (s : Int32 × ps_S) : Prop := ps_at z 4 27 [(0, .ref (z_ad z 45)), (1, .int a1), (2, .int a2), (3, .int s.1)] [] s.2
def qX5_lay_S27 (z : ps_X) (a1 : Int32) (a2 : Int32) (x : (ps_S)) : Prop := match x with | y => ps_at z 4 53 [(0, .ref (z_ad z 45)), (1, .int a1)] [] y
def fX5_lay_S27 (a1 : Int32) (a2 : Int32) (a3 : Int32) (σ : ps_S) : Option ((Int32 × ps_S) ⊕ ((ps_S))) :=
  ((fX5_all σ).bind fun q4 =>
  (if q4 < a3 then some (.inr σ)
  else ((fX5_laid a2 a3 σ).bind fun q5 =>
  (ps_ck a3 256 ((ps_let (ps_ui σ 52 (Int32.toNatClampNeg a3) q5) fun σ7 =>
  (ps_let (a3 + (1 : Int32)) fun x8 =>
  some (.inl (x8, σ7)))))))))
set_option maxHeartbeats 4000000 in
set_option maxRecDepth 100000 in
theorem tX5_lay_S27 {z : ps_X} (C : ps_C z cX5_lay 4 "PartSumsModel") (Z : ps_Z z 4 88) (a1 : Int32) (a2 : Int32)  (s : Int32 × ps_S) (r : (Int32 × ps_S) ⊕ ((ps_S))) (h : fX5_lay_S27 a1 a2 s.1 s.2 = some r) (k : ps_k (pX5_lay_S27 z a1 a2) (qX5_lay_S27 z a1 a2) r) : pX5_lay_S27 z a1 a2 s := by
  obtain ⟨a3, σ⟩ := s
  unfold fX5_lay_S27 at h
  unfold pX5_lay_S27
  refine ps_iload_n C (pc := 27) dX5_lay_27 3 rfl ?_
  refine ps_aload_n C (pc := 28) dX5_lay_28 0 rfl ?_
  obtain ⟨q4, hq4, h⟩ := ps_bd h
  refine ps_callVI C Z (pc := 29) (As := []) (k0 := 45) (mX5_all  hq4) (Cn := "PartSumsModel") rfl tw_954 tw_956 tw_38 tw_70 tw_957 hdX5_all rfl rfl ⟨by decide, by decide⟩ (by decide) ps_o45 rfl rfl (Nat.le_of_ble_eq_true rfl) dX5_lay_29 rfl ?_
  refine ps_icmp_gt C (pc := 32) 53 dX5_lay_32 (by decide) (fun hc => ?_) (fun hc => ?_)
  · have h := ps_ift hc h
    obtain rfl := Option.some.inj h
    exact ps_sub [0, 1] rfl k
  · have h := ps_iff hc h
    refine ps_aload_n C (pc := 35) dX5_lay_35 0 rfl ?_
    refine pg_45_16 C (pc := 36) tw_812 dX5_lay_36 ?_
    refine ps_iload_n C (pc := 39) dX5_lay_39 3 rfl ?_
    refine ps_aload_n C (pc := 40) dX5_lay_40 0 rfl ?_
    refine ps_iload_n C (pc := 41) dX5_lay_41 2 rfl ?_
    refine ps_iload_n C (pc := 42) dX5_lay_42 3 rfl ?_
    obtain ⟨q5, hq5, h⟩ := ps_bd h
    refine ps_callVI C Z (pc := 43) (As := [.int a2, .int a3]) (k0 := 45) (mX5_laid  hq5) (Cn := "PartSumsModel") rfl tw_1006 tw_1008 tw_45 tw_70 tw_1009 hdX5_laid rfl rfl ⟨by decide, by decide⟩ (by decide) ps_o45 rfl rfl (Nat.le_of_ble_eq_true rfl) dX5_lay_43 rfl ?_
    obtain ⟨hi6, h⟩ := ps_ck_s h
    refine ps_iastL C (pc := 46) 52 rfl rfl hi6 dX5_lay_46 h (fun σ7 h => ?_)
    refine ps_iincL C (pc := 47) (zz := 1) (lw := fun x8 => [(3, .int x8), (0, .ref (z_ad z 45)), (1, .int a1), (2, .int a2)]) dX5_lay_47 3 rfl (by decide) (by decide) (fun _ => rfl) h (fun x8 h => ?_)
    refine ps_goto C (pc := 50) 27 dX5_lay_50 (by decide) ?_
    obtain rfl := Option.some.inj h
    exact ps_sub [1, 2, 3, 0] rfl k
def fX5_lay (a1 : Int32) (a2 : Int32) (σ : ps_S) : Option (Int32 × ps_S) :=
  (ps_let (ps_ui σ 45 0 (0 : Int32)) fun σ1 =>
  ((fX5_isRow a1 σ1).bind fun q2 =>
  (if q2 = 0 then some ((-1 : Int32), σ1)
  else ((fX5_isIn a2 (0 : Int32) (7 : Int32)).bind fun q3 =>
  (if q3 = 0 then some ((-1 : Int32), σ1)
  else ((ps_lp (fun s => fX5_lay_S27 a1 a2 s.1 s.2) 100000 ((0 : Int32), σ1)).bind fun e9 =>
  ((fX5_all e9).bind fun q10 =>
  ((fX5_becomes a1 q10 e9).bind fun q11 =>
  some (q11.1, q11.2)))))))))
set_option maxHeartbeats 4000000 in
set_option maxRecDepth 100000 in
theorem tX5_lay {z : ps_X} (C : ps_C z cX5_lay 4 "PartSumsModel") (Z : ps_Z z 4 88) {a1 : Int32} {a2 : Int32} {σ : ps_S}  {r : Int32 × ps_S} (h : fX5_lay a1 a2 σ = some r) (k : ps_KI z 4 cX5_lay r.1 r.2) : ps_at z 4 0 [(0, .ref (z_ad z 45)), (1, .int a1), (2, .int a2)] [] σ := by
  unfold fX5_lay at h
  refine ps_aload_n C (pc := 0) dX5_lay_0 0 rfl ?_
  refine ps_iconst C (pc := 1) (v := 0) dX5_lay_1 (by decide) ?_
  refine pp_45_0 C (pc := 2) tw_796 dX5_lay_2 h (fun σ1 h => ?_)
  refine ps_aload_n C (pc := 5) dX5_lay_5 0 rfl ?_
  refine ps_iload_n C (pc := 6) dX5_lay_6 1 rfl ?_
  obtain ⟨q2, hq2, h⟩ := ps_bd h
  refine ps_callVI C Z (pc := 7) (As := [.int a1]) (k0 := 45) (mX5_isRow  hq2) (Cn := "PartSumsModel") rfl tw_982 tw_984 tw_42 tw_70 tw_985 hdX5_isRow rfl rfl ⟨by decide, by decide⟩ (by decide) ps_o45 rfl rfl (Nat.le_of_ble_eq_true rfl) dX5_lay_7 rfl ?_
  refine ps_if_eq C (pc := 10) 23 dX5_lay_10 (by decide) (fun hc => ?_) (fun hc => ?_)
  · have h := ps_ift hc h
    refine ps_iconst C (pc := 23) (v := -1) dX5_lay_23 (by decide) ?_
    obtain rfl := Option.some.inj h
    exact k _ _ dX5_lay_24
  · have h := ps_iff hc h
    refine ps_iload_n C (pc := 13) dX5_lay_13 2 rfl ?_
    refine ps_iconst C (pc := 14) (v := 0) dX5_lay_14 (by decide) ?_
    refine ps_bipush C (pc := 15) (v := 7) dX5_lay_15 (by decide) ?_
    obtain ⟨q3, hq3, h⟩ := ps_bd h
    refine ps_callSI C Z (pc := 17) (As := [.int a2, .int (0 : Int32), .int (7 : Int32)]) (mX5_isIn  hq3) tw_904 tw_905 tw_70 tw_906 hdX5_isIn rfl rfl ⟨by decide, by decide⟩ rfl (Nat.le_of_ble_eq_true rfl) dX5_lay_17 rfl ?_
    refine ps_if_ne C (pc := 20) 25 dX5_lay_20 (by decide) (fun hc => ?_) (fun hc => ?_)
    · have h := ps_iff hc h
      refine ps_iconst C (pc := 25) (v := 0) dX5_lay_25 (by decide) ?_
      refine ps_istore_n C (pc := 26) (lv' := [(3, .int (0 : Int32)), (0, .ref (z_ad z 45)), (1, .int a1), (2, .int a2)]) dX5_lay_26 (by decide) rfl ?_
      obtain ⟨e9, he9, h⟩ := ps_bd h
      refine ps_sub [1, 2, 3, 0] rfl ?_
      refine ps_loop (P := pX5_lay_S27 z a1 a2) (K := qX5_lay_S27 z a1 a2) (fun s r h k => tX5_lay_S27 C Z a1 a2  s r h k) _ _ _ he9 ?_
      unfold qX5_lay_S27
      refine ps_aload_n C (pc := 53) dX5_lay_53 0 rfl ?_
      refine ps_iload_n C (pc := 54) dX5_lay_54 1 rfl ?_
      refine ps_aload_n C (pc := 55) dX5_lay_55 0 rfl ?_
      obtain ⟨q10, hq10, h⟩ := ps_bd h
      refine ps_callVI C Z (pc := 56) (As := []) (k0 := 45) (mX5_all  hq10) (Cn := "PartSumsModel") rfl tw_954 tw_956 tw_38 tw_70 tw_957 hdX5_all rfl rfl ⟨by decide, by decide⟩ (by decide) ps_o45 rfl rfl (Nat.le_of_ble_eq_true rfl) dX5_lay_56 rfl ?_
      obtain ⟨q11, hq11, h⟩ := ps_bd h
      refine ps_callVI C Z (pc := 59) (As := [.int a1, .int q10]) (k0 := 45) (mX5_becomes  hq11) (Cn := "PartSumsModel") rfl tw_1018 tw_1020 tw_48 tw_70 tw_1021 hdX5_becomes rfl rfl ⟨by decide, by decide⟩ (by decide) ps_o45 rfl rfl (Nat.le_of_ble_eq_true rfl) dX5_lay_59 rfl ?_
      obtain rfl := Option.some.inj h
      exact k _ _ dX5_lay_62
    · have h := ps_ift hc h
      refine ps_iconst C (pc := 23) (v := -1) dX5_lay_23 (by decide) ?_
      obtain rfl := Option.some.inj h
      exact k _ _ dX5_lay_24
def rmX5_lay : Room := { frames := 4, cells := 0, slots := 0, locals := 88 }
theorem mX5_lay {l : Launch} {E : ps_E} {σ : ps_S} {a1 : Int32} {a2 : Int32} {r : Int32 × ps_S}  (h : fX5_lay a1 a2 σ = some r) : ps_MI l yX5_lay (ps_wm yX5_lay cX5_lay 4 (some .int)) rmX5_lay [.ref (e_ad E 45), .int a1, .int a2] E σ r.1 r.2 :=
  ps_metI yX5_lay rmX5_lay 4 (own := "PartSumsModel") r.1 (by decide +kernel) rfl (Nat.le_of_ble_eq_true rfl) rfl (fun z e1 e2 e3 e4 e5 C k => by
    subst e5
    exact tX5_lay C (ps_Zof e1 e3 e4)  h k)
theorem hdX5_lay : yX5_lay.cls ≠ "java/lang/invoke/MethodHandle" ∧ yX5_lay.cls ≠ "java/lang/invoke/VarHandle" ∧ (parseMethodDescriptor yX5_lay.desc).map (fun d => d.parameters.length) = some 2 := by decide +kernel
def pX5_laysSums_S3 (z : ps_X) (a1 : Int32) (a2 : Int32) (a3 : Int32) (s : Int32 × ps_S) : Prop := ps_at z 9 3 [(0, .ref (z_ad z 45)), (1, .int a1), (2, .int a2), (3, .int a3), (4, .int s.1)] [] s.2
def qX5_laysSums_S3 (z : ps_X) (a1 : Int32) (a2 : Int32) (a3 : Int32) (x : (ps_S)) : Prop := match x with | y => ps_at z 9 133 [] [] y
def pX5_laysSums_S18 (z : ps_X) (a1 : Int32) (a2 : Int32) (a3 : Int32) (a4 : Int32) (σ : ps_S) (s : Int64 × Int32) : Prop := ps_at z 9 18 [(0, .ref (z_ad z 45)), (1, .int a1), (2, .int a2), (3, .int a3), (4, .int a4), (5, .long s.1), (7, .int s.2)] [] σ
def qX5_laysSums_S18 (z : ps_X) (a1 : Int32) (a2 : Int32) (a3 : Int32) (a4 : Int32) (σ : ps_S) (x : (Int64)) : Prop := match x with | y => ps_at z 9 115 [(0, .ref (z_ad z 45)), (1, .int a1), (2, .int a2), (3, .int a3), (4, .int a4), (5, .long y)] [] σ
def fX5_laysSums_J109 (a1 : Int32) (a2 : Int32) (a3 : Int32) (a4 : Int32) (a5 : Int64) (a7 : Int32) (σ : ps_S) : Option ((Int64 × Int32) ⊕ ((Int64))) :=
  (ps_let (a7 + (1 : Int32)) fun x5 =>
  some (.inl (a5, x5)))
set_option maxHeartbeats 4000000 in
set_option maxRecDepth 100000 in
theorem tX5_laysSums_J109 {z : ps_X} (C : ps_C z cX5_laysSums 9 "PartSumsModel") (Z : ps_Z z 2 40) {a1 : Int32} {a2 : Int32} {a3 : Int32} {a4 : Int32} {a5 : Int64} {a7 : Int32} {σ : ps_S}  {r : (Int64 × Int32) ⊕ ((Int64))} (h : fX5_laysSums_J109 a1 a2 a3 a4 a5 a7 σ = some r) (k : ps_k (pX5_laysSums_S18 z a1 a2 a3 a4 σ) (qX5_laysSums_S18 z a1 a2 a3 a4 σ) r) : ps_at z 9 109 [(0, .ref (z_ad z 45)), (1, .int a1), (2, .int a2), (3, .int a3), (4, .int a4), (5, .long a5), (7, .int a7)] [] σ := by
  unfold fX5_laysSums_J109 at h
  refine ps_iincL C (pc := 109) (zz := 1) (lw := fun x5 => [(7, .int x5), (0, .ref (z_ad z 45)), (1, .int a1), (2, .int a2), (3, .int a3), (4, .int a4), (5, .long a5)]) dX5_laysSums_109 6 rfl (by decide) (by decide) (fun _ => rfl) h (fun x5 h => ?_)
  refine ps_goto C (pc := 112) 18 dX5_laysSums_112 (by decide) ?_
  obtain rfl := Option.some.inj h
  exact ps_sub [1, 2, 3, 4, 5, 6, 0] rfl k
def fX5_laysSums_J106 (a1 : Int32) (a2 : Int32) (a3 : Int32) (a4 : Int32) (a7 : Int32) (u0 : Int64) (u1 : Int64) (σ : ps_S) : Option ((Int64 × Int32) ⊕ ((Int64))) :=
  (ps_let (u1 + u0) fun x4 =>
  fX5_laysSums_J109 a1 a2 a3 a4 x4 a7 σ)
set_option maxHeartbeats 4000000 in
set_option maxRecDepth 100000 in
theorem tX5_laysSums_J106 {z : ps_X} (C : ps_C z cX5_laysSums 9 "PartSumsModel") (Z : ps_Z z 2 40) {a1 : Int32} {a2 : Int32} {a3 : Int32} {a4 : Int32} {a7 : Int32} {u0 : Int64} {u1 : Int64} {σ : ps_S}  {r : (Int64 × Int32) ⊕ ((Int64))} (h : fX5_laysSums_J106 a1 a2 a3 a4 a7 u0 u1 σ = some r) (k : ps_k (pX5_laysSums_S18 z a1 a2 a3 a4 σ) (qX5_laysSums_S18 z a1 a2 a3 a4 σ) r) : ps_at z 9 106 [(0, .ref (z_ad z 45)), (1, .int a1), (2, .int a2), (3, .int a3), (4, .int a4), (7, .int a7)] [.long u0, .long u1] σ := by
  unfold fX5_laysSums_J106 at h
  refine ps_ladd C (pc := 106) dX5_laysSums_106 ?_
  refine ps_lstoreL C (pc := 107) (lw := fun x4 => [(5, .long x4), (0, .ref (z_ad z 45)), (1, .int a1), (2, .int a2), (3, .int a3), (4, .int a4), (7, .int a7)]) dX5_laysSums_107 (by decide) (fun _ => rfl) h (fun x4 h => ?_)
  exact ps_sub [1, 2, 3, 4, 5, 0, 6] rfl (tX5_laysSums_J109 C Z  h k)
def fX5_laysSums_J77 (a1 : Int32) (a2 : Int32) (a3 : Int32) (a4 : Int32) (a5 : Int64) (a7 : Int32) (u0 : Int32) (σ : ps_S) : Option ((Int64 × Int32) ⊕ ((Int64))) :=
  (if u0 = 0 then ((fX5_numberOf a1 a7 σ).bind fun q3 =>
  fX5_laysSums_J106 a1 a2 a3 a4 a7 (Int32.toInt64 q3) a5 σ)
  else ((fX5_numberOf a1 a7 σ).bind fun q6 =>
  fX5_laysSums_J106 a1 a2 a3 a4 a7 (Int32.toInt64 (-q6)) a5 σ))
set_option maxHeartbeats 4000000 in
set_option maxRecDepth 100000 in
theorem tX5_laysSums_J77 {z : ps_X} (C : ps_C z cX5_laysSums 9 "PartSumsModel") (Z : ps_Z z 2 40) {a1 : Int32} {a2 : Int32} {a3 : Int32} {a4 : Int32} {a5 : Int64} {a7 : Int32} {u0 : Int32} {σ : ps_S}  {r : (Int64 × Int32) ⊕ ((Int64))} (h : fX5_laysSums_J77 a1 a2 a3 a4 a5 a7 u0 σ = some r) (k : ps_k (pX5_laysSums_S18 z a1 a2 a3 a4 σ) (qX5_laysSums_S18 z a1 a2 a3 a4 σ) r) : ps_at z 9 77 [(0, .ref (z_ad z 45)), (1, .int a1), (2, .int a2), (3, .int a3), (4, .int a4), (5, .long a5), (7, .int a7)] [.int u0] σ := by
  unfold fX5_laysSums_J77 at h
  refine ps_istore C (pc := 77) (lv' := [(8, .int u0), (0, .ref (z_ad z 45)), (1, .int a1), (2, .int a2), (3, .int a3), (4, .int a4), (5, .long a5), (7, .int a7)]) dX5_laysSums_77 (by decide) rfl ?_
  refine ps_lload C (pc := 79) dX5_laysSums_79 6 rfl ?_
  refine ps_iload C (pc := 81) dX5_laysSums_81 0 rfl ?_
  refine ps_if_eq C (pc := 83) 98 dX5_laysSums_83 (by decide) (fun hc => ?_) (fun hc => ?_)
  · have h := ps_ift hc h
    refine ps_aload_n C (pc := 98) dX5_laysSums_98 1 rfl ?_
    refine ps_iload_n C (pc := 99) dX5_laysSums_99 2 rfl ?_
    refine ps_iload C (pc := 100) dX5_laysSums_100 7 rfl ?_
    obtain ⟨q3, hq3, h⟩ := ps_bd h
    refine ps_callVI C Z (pc := 102) (As := [.int a1, .int a7]) (k0 := 45) (mX5_numberOf  hq3) (Cn := "PartSumsModel") rfl tw_986 tw_988 tw_43 tw_70 tw_989 hdX5_numberOf rfl rfl ⟨by decide, by decide⟩ (by decide) ps_o45 rfl rfl (Nat.le_of_ble_eq_true rfl) dX5_laysSums_102 rfl ?_
    refine ps_i2l C (pc := 105) dX5_laysSums_105 ?_
    exact ps_sub [1, 2, 3, 4, 5, 7] rfl (tX5_laysSums_J106 C Z  h k)
  · have h := ps_iff hc h
    refine ps_aload_n C (pc := 86) dX5_laysSums_86 1 rfl ?_
    refine ps_iload_n C (pc := 87) dX5_laysSums_87 2 rfl ?_
    refine ps_iload C (pc := 88) dX5_laysSums_88 7 rfl ?_
    obtain ⟨q6, hq6, h⟩ := ps_bd h
    refine ps_callVI C Z (pc := 90) (As := [.int a1, .int a7]) (k0 := 45) (mX5_numberOf  hq6) (Cn := "PartSumsModel") rfl tw_986 tw_988 tw_43 tw_70 tw_989 hdX5_numberOf rfl rfl ⟨by decide, by decide⟩ (by decide) ps_o45 rfl rfl (Nat.le_of_ble_eq_true rfl) dX5_laysSums_90 rfl ?_
    refine ps_ineg C (pc := 93) dX5_laysSums_93 ?_
    refine ps_i2l C (pc := 94) dX5_laysSums_94 ?_
    refine ps_goto C (pc := 95) 106 dX5_laysSums_95 (by decide) ?_
    exact ps_sub [1, 2, 3, 4, 5, 7] rfl (tX5_laysSums_J106 C Z  h k)
def fX5_laysSums_J76 (a1 : Int32) (a2 : Int32) (a3 : Int32) (a4 : Int32) (a5 : Int64) (a7 : Int32) (σ : ps_S) : Option ((Int64 × Int32) ⊕ ((Int64))) :=
  fX5_laysSums_J77 a1 a2 a3 a4 a5 a7 (0 : Int32) σ
set_option maxHeartbeats 4000000 in
set_option maxRecDepth 100000 in
theorem tX5_laysSums_J76 {z : ps_X} (C : ps_C z cX5_laysSums 9 "PartSumsModel") (Z : ps_Z z 2 40) {a1 : Int32} {a2 : Int32} {a3 : Int32} {a4 : Int32} {a5 : Int64} {a7 : Int32} {σ : ps_S}  {r : (Int64 × Int32) ⊕ ((Int64))} (h : fX5_laysSums_J76 a1 a2 a3 a4 a5 a7 σ = some r) (k : ps_k (pX5_laysSums_S18 z a1 a2 a3 a4 σ) (qX5_laysSums_S18 z a1 a2 a3 a4 σ) r) : ps_at z 9 76 [(0, .ref (z_ad z 45)), (1, .int a1), (2, .int a2), (3, .int a3), (4, .int a4), (5, .long a5), (7, .int a7)] [] σ := by
  unfold fX5_laysSums_J76 at h
  refine ps_iconst C (pc := 76) (v := 0) dX5_laysSums_76 (by decide) ?_
  exact ps_sub [0, 1, 2, 3, 4, 5, 6] rfl (tX5_laysSums_J77 C Z  h k)
def fX5_laysSums_J48 (a1 : Int32) (a2 : Int32) (a3 : Int32) (a4 : Int32) (a5 : Int64) (a7 : Int32) (u0 : Int32) (σ : ps_S) : Option ((Int64 × Int32) ⊕ ((Int64))) :=
  (if u0 = 0 then (if a3 = 0 then fX5_laysSums_J76 a1 a2 a3 a4 a5 a7 σ
  else ((fX5_bits (a4 ^^^ a7)).bind fun q7 =>
  (if (q7 - q7 / (2 : Int32) * (2 : Int32)) = (1 : Int32) then fX5_laysSums_J77 a1 a2 a3 a4 a5 a7 (1 : Int32) σ
  else fX5_laysSums_J76 a1 a2 a3 a4 a5 a7 σ)))
  else fX5_laysSums_J109 a1 a2 a3 a4 a5 a7 σ)
set_option maxHeartbeats 4000000 in
set_option maxRecDepth 100000 in
theorem tX5_laysSums_J48 {z : ps_X} (C : ps_C z cX5_laysSums 9 "PartSumsModel") (Z : ps_Z z 2 40) {a1 : Int32} {a2 : Int32} {a3 : Int32} {a4 : Int32} {a5 : Int64} {a7 : Int32} {u0 : Int32} {σ : ps_S}  {r : (Int64 × Int32) ⊕ ((Int64))} (h : fX5_laysSums_J48 a1 a2 a3 a4 a5 a7 u0 σ = some r) (k : ps_k (pX5_laysSums_S18 z a1 a2 a3 a4 σ) (qX5_laysSums_S18 z a1 a2 a3 a4 σ) r) : ps_at z 9 48 [(0, .ref (z_ad z 45)), (1, .int a1), (2, .int a2), (3, .int a3), (4, .int a4), (5, .long a5), (7, .int a7)] [.int u0] σ := by
  unfold fX5_laysSums_J48 at h
  refine ps_if_eq C (pc := 48) 54 dX5_laysSums_48 (by decide) (fun hc => ?_) (fun hc => ?_)
  · have h := ps_ift hc h
    refine ps_iload_n C (pc := 54) dX5_laysSums_54 3 rfl ?_
    refine ps_if_eq C (pc := 55) 76 dX5_laysSums_55 (by decide) (fun hc => ?_) (fun hc => ?_)
    · have h := ps_ift hc h
      exact ps_sub [0, 1, 2, 3, 4, 5, 6] rfl (tX5_laysSums_J76 C Z  h k)
    · have h := ps_iff hc h
      refine ps_iload C (pc := 58) dX5_laysSums_58 4 rfl ?_
      refine ps_iload C (pc := 60) dX5_laysSums_60 6 rfl ?_
      refine ps_ixor C (pc := 62) dX5_laysSums_62 ?_
      obtain ⟨q7, hq7, h⟩ := ps_bd h
      refine ps_callSI C Z (pc := 63) (As := [.int (a4 ^^^ a7)]) (mX5_bits  hq7) tw_922 tw_923 tw_70 tw_924 hdX5_bits rfl rfl ⟨by decide, by decide⟩ rfl (Nat.le_of_ble_eq_true rfl) dX5_laysSums_63 rfl ?_
      refine ps_iconst C (pc := 66) (v := 2) dX5_laysSums_66 (by decide) ?_
      refine ps_irem C (pc := 67) dX5_laysSums_67 (by decide) ?_
      refine ps_iconst C (pc := 68) (v := 1) dX5_laysSums_68 (by decide) ?_
      refine ps_icmp_ne C (pc := 69) 76 dX5_laysSums_69 (by decide) (fun hc => ?_) (fun hc => ?_)
      · have h := ps_iff hc h
        exact ps_sub [0, 1, 2, 3, 4, 5, 6] rfl (tX5_laysSums_J76 C Z  h k)
      · have h := ps_ift hc h
        refine ps_iconst C (pc := 72) (v := 1) dX5_laysSums_72 (by decide) ?_
        refine ps_goto C (pc := 73) 77 dX5_laysSums_73 (by decide) ?_
        exact ps_sub [0, 1, 2, 3, 4, 5, 6] rfl (tX5_laysSums_J77 C Z  h k)
  · have h := ps_iff hc h
    refine ps_goto C (pc := 51) 109 dX5_laysSums_51 (by decide) ?_
    exact ps_sub [0, 1, 2, 3, 4, 5, 6] rfl (tX5_laysSums_J109 C Z  h k)
def fX5_laysSums_S18 (a1 : Int32) (a2 : Int32) (a3 : Int32) (a4 : Int32) (σ : ps_S) (a5 : Int64) (a7 : Int32) : Option ((Int64 × Int32) ⊕ ((Int64))) :=
  ((fX5_all σ).bind fun q2 =>
  (if q2 < a7 then some (.inr a5)
  else (if a2 = 0 then fX5_laysSums_J48 a1 a2 a3 a4 a5 a7 (a7 &&& (a4 ^^^ (-1 : Int32))) σ
  else fX5_laysSums_J48 a1 a2 a3 a4 a5 a7 (a4 &&& (a7 ^^^ (-1 : Int32))) σ)))
set_option maxHeartbeats 4000000 in
set_option maxRecDepth 100000 in
theorem tX5_laysSums_S18 {z : ps_X} (C : ps_C z cX5_laysSums 9 "PartSumsModel") (Z : ps_Z z 2 40) (a1 : Int32) (a2 : Int32) (a3 : Int32) (a4 : Int32) (σ : ps_S)  (s : Int64 × Int32) (r : (Int64 × Int32) ⊕ ((Int64))) (h : fX5_laysSums_S18 a1 a2 a3 a4 σ s.1 s.2 = some r) (k : ps_k (pX5_laysSums_S18 z a1 a2 a3 a4 σ) (qX5_laysSums_S18 z a1 a2 a3 a4 σ) r) : pX5_laysSums_S18 z a1 a2 a3 a4 σ s := by
  obtain ⟨a5, a7⟩ := s
  unfold fX5_laysSums_S18 at h
  unfold pX5_laysSums_S18
  refine ps_iload C (pc := 18) dX5_laysSums_18 6 rfl ?_
  refine ps_aload_n C (pc := 20) dX5_laysSums_20 0 rfl ?_
  obtain ⟨q2, hq2, h⟩ := ps_bd h
  refine ps_callVI C Z (pc := 21) (As := []) (k0 := 45) (mX5_all  hq2) (Cn := "PartSumsModel") rfl tw_954 tw_956 tw_38 tw_70 tw_957 hdX5_all rfl rfl ⟨by decide, by decide⟩ (by decide) ps_o45 rfl rfl (Nat.le_of_ble_eq_true rfl) dX5_laysSums_21 rfl ?_
  refine ps_icmp_gt C (pc := 24) 115 dX5_laysSums_24 (by decide) (fun hc => ?_) (fun hc => ?_)
  · have h := ps_ift hc h
    obtain rfl := Option.some.inj h
    exact ps_sub [0, 1, 2, 3, 4, 5] rfl k
  · have h := ps_iff hc h
    refine ps_iload_n C (pc := 27) dX5_laysSums_27 2 rfl ?_
    refine ps_if_eq C (pc := 28) 41 dX5_laysSums_28 (by decide) (fun hc => ?_) (fun hc => ?_)
    · have h := ps_ift hc h
      refine ps_iload C (pc := 41) dX5_laysSums_41 6 rfl ?_
      refine ps_iload C (pc := 43) dX5_laysSums_43 4 rfl ?_
      refine ps_iconst C (pc := 45) (v := -1) dX5_laysSums_45 (by decide) ?_
      refine ps_ixor C (pc := 46) dX5_laysSums_46 ?_
      refine ps_iand C (pc := 47) dX5_laysSums_47 ?_
      exact ps_sub [0, 1, 2, 3, 4, 5, 6] rfl (tX5_laysSums_J48 C Z  h k)
    · have h := ps_iff hc h
      refine ps_iload C (pc := 31) dX5_laysSums_31 4 rfl ?_
      refine ps_iload C (pc := 33) dX5_laysSums_33 6 rfl ?_
      refine ps_iconst C (pc := 35) (v := -1) dX5_laysSums_35 (by decide) ?_
      refine ps_ixor C (pc := 36) dX5_laysSums_36 ?_
      refine ps_iand C (pc := 37) dX5_laysSums_37 ?_
      refine ps_goto C (pc := 38) 48 dX5_laysSums_38 (by decide) ?_
      exact ps_sub [0, 1, 2, 3, 4, 5, 6] rfl (tX5_laysSums_J48 C Z  h k)
def fX5_laysSums_S3 (a1 : Int32) (a2 : Int32) (a3 : Int32) (a4 : Int32) (σ : ps_S) : Option ((Int32 × ps_S) ⊕ ((ps_S))) :=
  ((fX5_all σ).bind fun q1 =>
  (if q1 < a4 then some (.inr σ)
  else ((ps_lp (fun s => fX5_laysSums_S18 a1 a2 a3 a4 σ s.1 s.2) 100000 ((0 : Int64), (0 : Int32))).bind fun e8 =>
  ((fX5_rest e8).bind fun q9 =>
  (ps_ck a4 256 ((ps_let (ps_ui σ 52 (Int32.toNatClampNeg a4) q9) fun σ11 =>
  (ps_let (a4 + (1 : Int32)) fun x12 =>
  some (.inl (x12, σ11))))))))))
set_option maxHeartbeats 4000000 in
set_option maxRecDepth 100000 in
theorem tX5_laysSums_S3 {z : ps_X} (C : ps_C z cX5_laysSums 9 "PartSumsModel") (Z : ps_Z z 2 40) (a1 : Int32) (a2 : Int32) (a3 : Int32)  (s : Int32 × ps_S) (r : (Int32 × ps_S) ⊕ ((ps_S))) (h : fX5_laysSums_S3 a1 a2 a3 s.1 s.2 = some r) (k : ps_k (pX5_laysSums_S3 z a1 a2 a3) (qX5_laysSums_S3 z a1 a2 a3) r) : pX5_laysSums_S3 z a1 a2 a3 s := by
  obtain ⟨a4, σ⟩ := s
  unfold fX5_laysSums_S3 at h
  unfold pX5_laysSums_S3
  refine ps_iload C (pc := 3) dX5_laysSums_3 4 rfl ?_
  refine ps_aload_n C (pc := 5) dX5_laysSums_5 0 rfl ?_
  obtain ⟨q1, hq1, h⟩ := ps_bd h
  refine ps_callVI C Z (pc := 6) (As := []) (k0 := 45) (mX5_all  hq1) (Cn := "PartSumsModel") rfl tw_954 tw_956 tw_38 tw_70 tw_957 hdX5_all rfl rfl ⟨by decide, by decide⟩ (by decide) ps_o45 rfl rfl (Nat.le_of_ble_eq_true rfl) dX5_laysSums_6 rfl ?_
  refine ps_icmp_gt C (pc := 9) 133 dX5_laysSums_9 (by decide) (fun hc => ?_) (fun hc => ?_)
  · have h := ps_ift hc h
    obtain rfl := Option.some.inj h
    exact ps_sub [] rfl k
  · have h := ps_iff hc h
    refine ps_lconst C (pc := 12) (v := 0) dX5_laysSums_12 (by decide) ?_
    refine ps_lstore C (pc := 13) (lv' := [(5, .long (0 : Int64)), (0, .ref (z_ad z 45)), (1, .int a1), (2, .int a2), (3, .int a3), (4, .int a4)]) dX5_laysSums_13 (by decide) rfl ?_
    refine ps_iconst C (pc := 15) (v := 0) dX5_laysSums_15 (by decide) ?_
    refine ps_istore C (pc := 16) (lv' := [(7, .int (0 : Int32)), (5, .long (0 : Int64)), (0, .ref (z_ad z 45)), (1, .int a1), (2, .int a2), (3, .int a3), (4, .int a4)]) dX5_laysSums_16 (by decide) rfl ?_
    obtain ⟨e8, he8, h⟩ := ps_bd h
    refine ps_sub [2, 3, 4, 5, 6, 1, 0] rfl ?_
    refine ps_loop (P := pX5_laysSums_S18 z a1 a2 a3 a4 σ) (K := qX5_laysSums_S18 z a1 a2 a3 a4 σ) (fun s r h k => tX5_laysSums_S18 C Z a1 a2 a3 a4 σ  s r h k) _ _ _ he8 ?_
    unfold qX5_laysSums_S18
    refine ps_aload_n C (pc := 115) dX5_laysSums_115 0 rfl ?_
    refine pg_45_16 C (pc := 116) tw_812 dX5_laysSums_116 ?_
    refine ps_iload C (pc := 119) dX5_laysSums_119 4 rfl ?_
    refine ps_lload C (pc := 121) dX5_laysSums_121 5 rfl ?_
    obtain ⟨q9, hq9, h⟩ := ps_bd h
    refine ps_callSI C Z (pc := 123) (As := [.long e8]) (mX5_rest  hq9) tw_998 tw_999 tw_70 tw_1000 hdX5_rest rfl rfl ⟨by decide, by decide⟩ rfl (Nat.le_of_ble_eq_true rfl) dX5_laysSums_123 rfl ?_
    obtain ⟨hi10, h⟩ := ps_ck_s h
    refine ps_iastL C (pc := 126) 52 rfl rfl hi10 dX5_laysSums_126 h (fun σ11 h => ?_)
    refine ps_iincL C (pc := 127) (zz := 1) (lw := fun x12 => [(4, .int x12), (0, .ref (z_ad z 45)), (1, .int a1), (2, .int a2), (3, .int a3), (5, .long e8)]) dX5_laysSums_127 4 rfl (by decide) (by decide) (fun _ => rfl) h (fun x12 h => ?_)
    refine ps_goto C (pc := 130) 3 dX5_laysSums_130 (by decide) ?_
    obtain rfl := Option.some.inj h
    exact ps_sub [1, 2, 3, 4, 0] rfl k
def fX5_laysSums (a1 : Int32) (a2 : Int32) (a3 : Int32) (σ : ps_S) : Option (ps_S) :=
  ((ps_lp (fun s => fX5_laysSums_S3 a1 a2 a3 s.1 s.2) 100000 ((0 : Int32), σ)).bind fun e13 =>
  some e13)
set_option maxHeartbeats 4000000 in
set_option maxRecDepth 100000 in
theorem tX5_laysSums {z : ps_X} (C : ps_C z cX5_laysSums 9 "PartSumsModel") (Z : ps_Z z 2 40) {a1 : Int32} {a2 : Int32} {a3 : Int32} {σ : ps_S}  {r : ps_S} (h : fX5_laysSums a1 a2 a3 σ = some r) (k : ps_KV z 9 cX5_laysSums r) : ps_at z 9 0 [(0, .ref (z_ad z 45)), (1, .int a1), (2, .int a2), (3, .int a3)] [] σ := by
  unfold fX5_laysSums at h
  refine ps_iconst C (pc := 0) (v := 0) dX5_laysSums_0 (by decide) ?_
  refine ps_istore C (pc := 1) (lv' := [(4, .int (0 : Int32)), (0, .ref (z_ad z 45)), (1, .int a1), (2, .int a2), (3, .int a3)]) dX5_laysSums_1 (by decide) rfl ?_
  obtain ⟨e13, he13, h⟩ := ps_bd h
  refine ps_sub [1, 2, 3, 4, 0] rfl ?_
  refine ps_loop (P := pX5_laysSums_S3 z a1 a2 a3) (K := qX5_laysSums_S3 z a1 a2 a3) (fun s r h k => tX5_laysSums_S3 C Z a1 a2 a3  s r h k) _ _ _ he13 ?_
  unfold qX5_laysSums_S3
  obtain rfl := Option.some.inj h
  exact k _ _ dX5_laysSums_133
def rmX5_laysSums : Room := { frames := 2, cells := 0, slots := 0, locals := 40 }
theorem mX5_laysSums {l : Launch} {E : ps_E} {σ : ps_S} {a1 : Int32} {a2 : Int32} {a3 : Int32} {r : ps_S}  (h : fX5_laysSums a1 a2 a3 σ = some r) : ps_MV l yX5_laysSums (ps_wm yX5_laysSums cX5_laysSums 9 none) rmX5_laysSums [.ref (e_ad E 45), .int a1, .int a2, .int a3] E σ r :=
  ps_metV yX5_laysSums rmX5_laysSums 9 (own := "PartSumsModel")  (by decide +kernel) rfl (Nat.le_of_ble_eq_true rfl) rfl (fun z e1 e2 e3 e4 e5 C k => by
    subst e5
    exact tX5_laysSums C (ps_Zof e1 e3 e4)  h k)
theorem hdX5_laysSums : yX5_laysSums.cls ≠ "java/lang/invoke/MethodHandle" ∧ yX5_laysSums.cls ≠ "java/lang/invoke/VarHandle" ∧ (parseMethodDescriptor yX5_laysSums.desc).map (fun d => d.parameters.length) = some 3 := by decide +kernel
def fX5_sums_J36 (u0 : Int32) (u1 : Int32) (σ : ps_S) : Option (Int32 × ps_S) :=
  ((fX5_becomes u1 u0 σ).bind fun q5 =>
  some (q5.1, q5.2))
set_option maxHeartbeats 4000000 in
set_option maxRecDepth 100000 in
theorem tX5_sums_J36 {z : ps_X} (C : ps_C z cX5_sums 4 "PartSumsModel") (Z : ps_Z z 3 68) {u0 : Int32} {u1 : Int32} {σ : ps_S}  {r : Int32 × ps_S} (h : fX5_sums_J36 u0 u1 σ = some r) (k : ps_KI z 4 cX5_sums r.1 r.2) : ps_at z 4 36 [] [.int u0, .int u1, .ref (z_ad z 45)] σ := by
  unfold fX5_sums_J36 at h
  obtain ⟨q5, hq5, h⟩ := ps_bd h
  refine ps_callVI C Z (pc := 36) (As := [.int u1, .int u0]) (k0 := 45) (mX5_becomes  hq5) (Cn := "PartSumsModel") rfl tw_1018 tw_1020 tw_48 tw_70 tw_1021 hdX5_becomes rfl rfl ⟨by decide, by decide⟩ (by decide) ps_o45 rfl rfl (Nat.le_of_ble_eq_true rfl) dX5_sums_36 rfl ?_
  obtain rfl := Option.some.inj h
  exact k _ _ dX5_sums_39
def fX5_sums (a1 : Int32) (a2 : Int32) (a3 : Int32) (σ : ps_S) : Option (Int32 × ps_S) :=
  (ps_let (ps_ui σ 45 0 (0 : Int32)) fun σ1 =>
  ((fX5_isRow a1 σ1).bind fun q2 =>
  (if q2 = 0 then some ((-1 : Int32), σ1)
  else ((fX5_laysSums a1 a2 a3 σ1).bind fun q3 =>
  (if a2 = 0 then ((fX5_all q3).bind fun q4 =>
  fX5_sums_J36 q4 a1 q3)
  else fX5_sums_J36 (0 : Int32) a1 q3)))))
set_option maxHeartbeats 4000000 in
set_option maxRecDepth 100000 in
theorem tX5_sums {z : ps_X} (C : ps_C z cX5_sums 4 "PartSumsModel") (Z : ps_Z z 3 68) {a1 : Int32} {a2 : Int32} {a3 : Int32} {σ : ps_S}  {r : Int32 × ps_S} (h : fX5_sums a1 a2 a3 σ = some r) (k : ps_KI z 4 cX5_sums r.1 r.2) : ps_at z 4 0 [(0, .ref (z_ad z 45)), (1, .int a1), (2, .int a2), (3, .int a3)] [] σ := by
  unfold fX5_sums at h
  refine ps_aload_n C (pc := 0) dX5_sums_0 0 rfl ?_
  refine ps_iconst C (pc := 1) (v := 0) dX5_sums_1 (by decide) ?_
  refine pp_45_0 C (pc := 2) tw_796 dX5_sums_2 h (fun σ1 h => ?_)
  refine ps_aload_n C (pc := 5) dX5_sums_5 0 rfl ?_
  refine ps_iload_n C (pc := 6) dX5_sums_6 1 rfl ?_
  obtain ⟨q2, hq2, h⟩ := ps_bd h
  refine ps_callVI C Z (pc := 7) (As := [.int a1]) (k0 := 45) (mX5_isRow  hq2) (Cn := "PartSumsModel") rfl tw_982 tw_984 tw_42 tw_70 tw_985 hdX5_isRow rfl rfl ⟨by decide, by decide⟩ (by decide) ps_o45 rfl rfl (Nat.le_of_ble_eq_true rfl) dX5_sums_7 rfl ?_
  refine ps_if_ne C (pc := 10) 15 dX5_sums_10 (by decide) (fun hc => ?_) (fun hc => ?_)
  · have h := ps_iff hc h
    refine ps_aload_n C (pc := 15) dX5_sums_15 0 rfl ?_
    refine ps_iload_n C (pc := 16) dX5_sums_16 1 rfl ?_
    refine ps_iload_n C (pc := 17) dX5_sums_17 2 rfl ?_
    refine ps_iload_n C (pc := 18) dX5_sums_18 3 rfl ?_
    obtain ⟨q3, hq3, h⟩ := ps_bd h
    refine ps_callVV C Z (pc := 19) (As := [.int a1, .int a2, .int a3]) (k0 := 45) (mX5_laysSums  hq3) (Cn := "PartSumsModel") rfl tw_1030 tw_1032 tw_50 tw_70 tw_1033 hdX5_laysSums rfl rfl ⟨by decide, by decide⟩ (by decide) ps_o45 rfl rfl (Nat.le_of_ble_eq_true rfl) dX5_sums_19 rfl ?_
    refine ps_aload_n C (pc := 22) dX5_sums_22 0 rfl ?_
    refine ps_iload_n C (pc := 23) dX5_sums_23 1 rfl ?_
    refine ps_iload_n C (pc := 24) dX5_sums_24 2 rfl ?_
    refine ps_if_eq C (pc := 25) 32 dX5_sums_25 (by decide) (fun hc => ?_) (fun hc => ?_)
    · have h := ps_ift hc h
      refine ps_aload_n C (pc := 32) dX5_sums_32 0 rfl ?_
      obtain ⟨q4, hq4, h⟩ := ps_bd h
      refine ps_callVI C Z (pc := 33) (As := []) (k0 := 45) (mX5_all  hq4) (Cn := "PartSumsModel") rfl tw_954 tw_956 tw_38 tw_70 tw_957 hdX5_all rfl rfl ⟨by decide, by decide⟩ (by decide) ps_o45 rfl rfl (Nat.le_of_ble_eq_true rfl) dX5_sums_33 rfl ?_
      exact ps_sub [] rfl (tX5_sums_J36 C Z  h k)
    · have h := ps_iff hc h
      refine ps_iconst C (pc := 28) (v := 0) dX5_sums_28 (by decide) ?_
      refine ps_goto C (pc := 29) 36 dX5_sums_29 (by decide) ?_
      exact ps_sub [] rfl (tX5_sums_J36 C Z  h k)
  · have h := ps_ift hc h
    refine ps_iconst C (pc := 13) (v := -1) dX5_sums_13 (by decide) ?_
    obtain rfl := Option.some.inj h
    exact k _ _ dX5_sums_14
def rmX5_sums : Room := { frames := 3, cells := 0, slots := 0, locals := 68 }
theorem mX5_sums {l : Launch} {E : ps_E} {σ : ps_S} {a1 : Int32} {a2 : Int32} {a3 : Int32} {r : Int32 × ps_S}  (h : fX5_sums a1 a2 a3 σ = some r) : ps_MI l yX5_sums (ps_wm yX5_sums cX5_sums 4 (some .int)) rmX5_sums [.ref (e_ad E 45), .int a1, .int a2, .int a3] E σ r.1 r.2 :=
  ps_metI yX5_sums rmX5_sums 4 (own := "PartSumsModel") r.1 (by decide +kernel) rfl (Nat.le_of_ble_eq_true rfl) rfl (fun z e1 e2 e3 e4 e5 C k => by
    subst e5
    exact tX5_sums C (ps_Zof e1 e3 e4)  h k)
theorem hdX5_sums : yX5_sums.cls ≠ "java/lang/invoke/MethodHandle" ∧ yX5_sums.cls ≠ "java/lang/invoke/VarHandle" ∧ (parseMethodDescriptor yX5_sums.desc).map (fun d => d.parameters.length) = some 3 := by decide +kernel
def fX5_sum (a1 : Int32) (a2 : Int32) (σ : ps_S) : Option (Int32 × ps_S) :=
  ((fX5_sums a1 a2 (0 : Int32) σ).bind fun q1 =>
  some (q1.1, q1.2))
set_option maxHeartbeats 4000000 in
set_option maxRecDepth 100000 in
theorem tX5_sum {z : ps_X} (C : ps_C z cX5_sum 3 "PartSumsModel") (Z : ps_Z z 4 91) {a1 : Int32} {a2 : Int32} {σ : ps_S}  {r : Int32 × ps_S} (h : fX5_sum a1 a2 σ = some r) (k : ps_KI z 3 cX5_sum r.1 r.2) : ps_at z 3 0 [(0, .ref (z_ad z 45)), (1, .int a1), (2, .int a2)] [] σ := by
  unfold fX5_sum at h
  refine ps_aload_n C (pc := 0) dX5_sum_0 0 rfl ?_
  refine ps_iload_n C (pc := 1) dX5_sum_1 1 rfl ?_
  refine ps_iload_n C (pc := 2) dX5_sum_2 2 rfl ?_
  refine ps_iconst C (pc := 3) (v := 0) dX5_sum_3 (by decide) ?_
  obtain ⟨q1, hq1, h⟩ := ps_bd h
  refine ps_callVI C Z (pc := 4) (As := [.int a1, .int a2, .int (0 : Int32)]) (k0 := 45) (mX5_sums  hq1) (Cn := "PartSumsModel") rfl tw_1026 tw_1028 tw_49 tw_70 tw_1029 hdX5_sums rfl rfl ⟨by decide, by decide⟩ (by decide) ps_o45 rfl rfl (Nat.le_of_ble_eq_true rfl) dX5_sum_4 rfl ?_
  obtain rfl := Option.some.inj h
  exact k _ _ dX5_sum_7
def rmX5_sum : Room := { frames := 4, cells := 0, slots := 0, locals := 91 }
theorem mX5_sum {l : Launch} {E : ps_E} {σ : ps_S} {a1 : Int32} {a2 : Int32} {r : Int32 × ps_S}  (h : fX5_sum a1 a2 σ = some r) : ps_MI l yX5_sum (ps_wm yX5_sum cX5_sum 3 (some .int)) rmX5_sum [.ref (e_ad E 45), .int a1, .int a2] E σ r.1 r.2 :=
  ps_metI yX5_sum rmX5_sum 3 (own := "PartSumsModel") r.1 (by decide +kernel) rfl (Nat.le_of_ble_eq_true rfl) rfl (fun z e1 e2 e3 e4 e5 C k => by
    subst e5
    exact tX5_sum C (ps_Zof e1 e3 e4)  h k)
theorem hdX5_sum : yX5_sum.cls ≠ "java/lang/invoke/MethodHandle" ∧ yX5_sum.cls ≠ "java/lang/invoke/VarHandle" ∧ (parseMethodDescriptor yX5_sum.desc).map (fun d => d.parameters.length) = some 2 := by decide +kernel
def fX5_back (a1 : Int32) (a2 : Int32) (σ : ps_S) : Option (Int32 × ps_S) :=
  ((fX5_sums a1 a2 (1 : Int32) σ).bind fun q1 =>
  some (q1.1, q1.2))
set_option maxHeartbeats 4000000 in
set_option maxRecDepth 100000 in
theorem tX5_back {z : ps_X} (C : ps_C z cX5_back 3 "PartSumsModel") (Z : ps_Z z 4 91) {a1 : Int32} {a2 : Int32} {σ : ps_S}  {r : Int32 × ps_S} (h : fX5_back a1 a2 σ = some r) (k : ps_KI z 3 cX5_back r.1 r.2) : ps_at z 3 0 [(0, .ref (z_ad z 45)), (1, .int a1), (2, .int a2)] [] σ := by
  unfold fX5_back at h
  refine ps_aload_n C (pc := 0) dX5_back_0 0 rfl ?_
  refine ps_iload_n C (pc := 1) dX5_back_1 1 rfl ?_
  refine ps_iload_n C (pc := 2) dX5_back_2 2 rfl ?_
  refine ps_iconst C (pc := 3) (v := 1) dX5_back_3 (by decide) ?_
  obtain ⟨q1, hq1, h⟩ := ps_bd h
  refine ps_callVI C Z (pc := 4) (As := [.int a1, .int a2, .int (1 : Int32)]) (k0 := 45) (mX5_sums  hq1) (Cn := "PartSumsModel") rfl tw_1026 tw_1028 tw_49 tw_70 tw_1029 hdX5_sums rfl rfl ⟨by decide, by decide⟩ (by decide) ps_o45 rfl rfl (Nat.le_of_ble_eq_true rfl) dX5_back_4 rfl ?_
  obtain rfl := Option.some.inj h
  exact k _ _ dX5_back_7
def rmX5_back : Room := { frames := 4, cells := 0, slots := 0, locals := 91 }
theorem mX5_back {l : Launch} {E : ps_E} {σ : ps_S} {a1 : Int32} {a2 : Int32} {r : Int32 × ps_S}  (h : fX5_back a1 a2 σ = some r) : ps_MI l yX5_back (ps_wm yX5_back cX5_back 3 (some .int)) rmX5_back [.ref (e_ad E 45), .int a1, .int a2] E σ r.1 r.2 :=
  ps_metI yX5_back rmX5_back 3 (own := "PartSumsModel") r.1 (by decide +kernel) rfl (Nat.le_of_ble_eq_true rfl) rfl (fun z e1 e2 e3 e4 e5 C k => by
    subst e5
    exact tX5_back C (ps_Zof e1 e3 e4)  h k)
theorem hdX5_back : yX5_back.cls ≠ "java/lang/invoke/MethodHandle" ∧ yX5_back.cls ≠ "java/lang/invoke/VarHandle" ∧ (parseMethodDescriptor yX5_back.desc).map (fun d => d.parameters.length) = some 2 := by decide +kernel
