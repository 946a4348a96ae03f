def pX5_laysPrices_S9 (z : ps_X)  (s : Int32 × ps_S) : Prop := ps_at z 4 9 [(0, .ref (z_ad z 45)), (1, .int s.1)] [] s.2
def qX5_laysPrices_S9 (z : ps_X)  (x : (ps_S)) : Prop := match x with | y => ps_at z 4 126 [] [] y
def pX5_laysPrices_S26 (z : ps_X) (a1 : Int32) (s : Int32 × ps_S) : Prop := ps_at z 4 26 [(0, .ref (z_ad z 45)), (1, .int a1), (2, .int s.1)] [] s.2
def qX5_laysPrices_S26 (z : ps_X) (a1 : Int32) (x : (ps_S)) : Prop := match x with | y => ps_at z 4 120 [(0, .ref (z_ad z 45)), (1, .int a1)] [] y
def fX5_laysPrices_J111 (a1 : Int32) (a2 : Int32) (σ : ps_S) : Option ((Int32 × ps_S) ⊕ ((ps_S))) :=
  (ps_let ((a2 - (1 : Int32)) &&& a1) fun x6 =>
  some (.inl (x6, σ)))
set_option maxHeartbeats 4000000 in
set_option maxRecDepth 100000 in
theorem tX5_laysPrices_J111 {z : ps_X} (C : ps_C z cX5_laysPrices 4 "PartSumsModel") (Z : ps_Z z 2 40) {a1 : Int32} {a2 : Int32} {σ : ps_S}  {r : (Int32 × ps_S) ⊕ ((ps_S))} (h : fX5_laysPrices_J111 a1 a2 σ = some r) (k : ps_k (pX5_laysPrices_S26 z a1) (qX5_laysPrices_S26 z a1) r) : ps_at z 4 111 [(0, .ref (z_ad z 45)), (1, .int a1), (2, .int a2)] [] σ := by
  unfold fX5_laysPrices_J111 at h
  refine ps_iload_n C (pc := 111) dX5_laysPrices_111 2 rfl ?_
  refine ps_iconst C (pc := 112) (v := 1) dX5_laysPrices_112 (by decide) ?_
  refine ps_isub C (pc := 113) dX5_laysPrices_113 ?_
  refine ps_iload_n C (pc := 114) dX5_laysPrices_114 1 rfl ?_
  refine ps_iand C (pc := 115) dX5_laysPrices_115 ?_
  refine ps_istoreL_n C (pc := 116) (lw := fun x6 => [(2, .int x6), (0, .ref (z_ad z 45)), (1, .int a1)]) dX5_laysPrices_116 (by decide) (fun _ => rfl) h (fun x6 h => ?_)
  refine ps_goto C (pc := 117) 26 dX5_laysPrices_117 (by decide) ?_
  obtain rfl := Option.some.inj h
  exact ps_sub [1, 2, 0] rfl k
def fX5_laysPrices_J104 (a1 : Int32) (a2 : Int32) (a3 : Int32) (σ : ps_S) : Option ((Int32 × ps_S) ⊕ ((ps_S))) :=
  (ps_ck a1 256 ((ps_let (ps_ui σ 55 (Int32.toNatClampNeg a1) a3) fun σ14 =>
  fX5_laysPrices_J111 a1 a2 σ14)))
set_option maxHeartbeats 4000000 in
set_option maxRecDepth 100000 in
theorem tX5_laysPrices_J104 {z : ps_X} (C : ps_C z cX5_laysPrices 4 "PartSumsModel") (Z : ps_Z z 2 40) {a1 : Int32} {a2 : Int32} {a3 : Int32} {σ : ps_S}  {r : (Int32 × ps_S) ⊕ ((ps_S))} (h : fX5_laysPrices_J104 a1 a2 a3 σ = some r) (k : ps_k (pX5_laysPrices_S26 z a1) (qX5_laysPrices_S26 z a1) r) : ps_at z 4 104 [(0, .ref (z_ad z 45)), (1, .int a1), (2, .int a2), (3, .int a3)] [] σ := by
  unfold fX5_laysPrices_J104 at h
  refine ps_aload_n C (pc := 104) dX5_laysPrices_104 0 rfl ?_
  refine pg_45_19 C (pc := 105) tw_815 dX5_laysPrices_105 ?_
  refine ps_iload_n C (pc := 108) dX5_laysPrices_108 1 rfl ?_
  refine ps_iload_n C (pc := 109) dX5_laysPrices_109 3 rfl ?_
  obtain ⟨hi13, h⟩ := ps_ck_s h
  refine ps_iastL C (pc := 110) 55 rfl rfl hi13 dX5_laysPrices_110 h (fun σ14 h => ?_)
  exact ps_sub [0, 1, 2] rfl (tX5_laysPrices_J111 C Z  h k)
def fX5_laysPrices_S26 (a1 : Int32) (a2 : Int32) (σ : ps_S) : Option ((Int32 × ps_S) ⊕ ((ps_S))) :=
  (if a2 ≤ 0 then some (.inr σ)
  else (if ((a2 &&& a1) &&& (-a1)) = 0 then fX5_laysPrices_J111 a1 a2 σ
  else ((fX5_isTold a2 σ).bind fun q7 =>
  (if q7 = 0 then fX5_laysPrices_J111 a1 a2 σ
  else (ps_ck (a1 &&& (a2 ^^^ (-1 : Int32))) 256 ((if (σ.1 55 (Int32.toNatClampNeg (a1 &&& (a2 ^^^ (-1 : Int32))))) = (-1 : Int32) then fX5_laysPrices_J111 a1 a2 σ
  else (ps_ck ((1 : Int32) + a2) 1289 ((ps_ck (a1 &&& (a2 ^^^ (-1 : Int32))) 256 ((ps_let ((σ.1 47 (Int32.toNatClampNeg ((1 : Int32) + a2))) + (σ.1 55 (Int32.toNatClampNeg (a1 &&& (a2 ^^^ (-1 : Int32)))))) fun x11 =>
  (ps_ck a1 256 ((if (σ.1 55 (Int32.toNatClampNeg a1)) = (-1 : Int32) then fX5_laysPrices_J104 a1 a2 x11 σ
  else (ps_ck a1 256 ((if (σ.1 55 (Int32.toNatClampNeg a1)) ≤ x11 then fX5_laysPrices_J111 a1 a2 σ
  else fX5_laysPrices_J104 a1 a2 x11 σ))))))))))))))))))
set_option maxHeartbeats 4000000 in
set_option maxRecDepth 100000 in
theorem tX5_laysPrices_S26 {z : ps_X} (C : ps_C z cX5_laysPrices 4 "PartSumsModel") (Z : ps_Z z 2 40) (a1 : Int32)  (s : Int32 × ps_S) (r : (Int32 × ps_S) ⊕ ((ps_S))) (h : fX5_laysPrices_S26 a1 s.1 s.2 = some r) (k : ps_k (pX5_laysPrices_S26 z a1) (qX5_laysPrices_S26 z a1) r) : pX5_laysPrices_S26 z a1 s := by
  obtain ⟨a2, σ⟩ := s
  unfold fX5_laysPrices_S26 at h
  unfold pX5_laysPrices_S26
  refine ps_iload_n C (pc := 26) dX5_laysPrices_26 2 rfl ?_
  refine ps_if_le C (pc := 27) 120 dX5_laysPrices_27 (by decide) (fun hc => ?_) (fun hc => ?_)
  · have h := ps_ift hc h
    obtain rfl := Option.some.inj h
    exact ps_sub [0, 1] rfl k
  · have h := ps_iff hc h
    refine ps_iload_n C (pc := 30) dX5_laysPrices_30 2 rfl ?_
    refine ps_iload_n C (pc := 31) dX5_laysPrices_31 1 rfl ?_
    refine ps_iand C (pc := 32) dX5_laysPrices_32 ?_
    refine ps_iload_n C (pc := 33) dX5_laysPrices_33 1 rfl ?_
    refine ps_ineg C (pc := 34) dX5_laysPrices_34 ?_
    refine ps_iand C (pc := 35) dX5_laysPrices_35 ?_
    refine ps_if_eq C (pc := 36) 111 dX5_laysPrices_36 (by decide) (fun hc => ?_) (fun hc => ?_)
    · have h := ps_ift hc h
      exact ps_sub [0, 1, 2] rfl (tX5_laysPrices_J111 C Z  h k)
    · have h := ps_iff hc h
      refine ps_aload_n C (pc := 39) dX5_laysPrices_39 0 rfl ?_
      refine ps_iload_n C (pc := 40) dX5_laysPrices_40 2 rfl ?_
      obtain ⟨q7, hq7, h⟩ := ps_bd h
      refine ps_callVI C Z (pc := 41) (As := [.int a2]) (k0 := 45) (mX5_isTold  hq7) (Cn := "PartSumsModel") rfl tw_1081 tw_1083 tw_54 tw_70 tw_1084 hdX5_isTold rfl rfl ⟨by decide, by decide⟩ (by decide) ps_o45 rfl rfl (Nat.le_of_ble_eq_true rfl) dX5_laysPrices_41 rfl ?_
      refine ps_if_eq C (pc := 44) 111 dX5_laysPrices_44 (by decide) (fun hc => ?_) (fun hc => ?_)
      · have h := ps_ift hc h
        exact ps_sub [0, 1, 2] rfl (tX5_laysPrices_J111 C Z  h k)
      · have h := ps_iff hc h
        refine ps_aload_n C (pc := 47) dX5_laysPrices_47 0 rfl ?_
        refine pg_45_19 C (pc := 48) tw_815 dX5_laysPrices_48 ?_
        refine ps_iload_n C (pc := 51) dX5_laysPrices_51 1 rfl ?_
        refine ps_iload_n C (pc := 52) dX5_laysPrices_52 2 rfl ?_
        refine ps_iconst C (pc := 53) (v := -1) dX5_laysPrices_53 (by decide) ?_
        refine ps_ixor C (pc := 54) dX5_laysPrices_54 ?_
        refine ps_iand C (pc := 55) dX5_laysPrices_55 ?_
        obtain ⟨hi8, h⟩ := ps_ck_s h
        refine ps_iald C (pc := 56) 55 rfl rfl hi8 dX5_laysPrices_56 ?_
        refine ps_iconst C (pc := 57) (v := -1) dX5_laysPrices_57 (by decide) ?_
        refine ps_icmp_ne C (pc := 58) 64 dX5_laysPrices_58 (by decide) (fun hc => ?_) (fun hc => ?_)
        · have h := ps_iff hc h
          refine ps_aload_n C (pc := 64) dX5_laysPrices_64 0 rfl ?_
          refine pg_45_10 C (pc := 65) tw_806 dX5_laysPrices_65 ?_
          refine ps_iconst C (pc := 68) (v := 1) dX5_laysPrices_68 (by decide) ?_
          refine ps_iload_n C (pc := 69) dX5_laysPrices_69 2 rfl ?_
          refine ps_iadd C (pc := 70) dX5_laysPrices_70 ?_
          obtain ⟨hi9, h⟩ := ps_ck_s h
          refine ps_iald C (pc := 71) 47 rfl rfl hi9 dX5_laysPrices_71 ?_
          refine ps_aload_n C (pc := 72) dX5_laysPrices_72 0 rfl ?_
          refine pg_45_19 C (pc := 73) tw_815 dX5_laysPrices_73 ?_
          refine ps_iload_n C (pc := 76) dX5_laysPrices_76 1 rfl ?_
          refine ps_iload_n C (pc := 77) dX5_laysPrices_77 2 rfl ?_
          refine ps_iconst C (pc := 78) (v := -1) dX5_laysPrices_78 (by decide) ?_
          refine ps_ixor C (pc := 79) dX5_laysPrices_79 ?_
          refine ps_iand C (pc := 80) dX5_laysPrices_80 ?_
          obtain ⟨hi10, h⟩ := ps_ck_s h
          refine ps_iald C (pc := 81) 55 rfl rfl hi10 dX5_laysPrices_81 ?_
          refine ps_iadd C (pc := 82) dX5_laysPrices_82 ?_
          refine ps_istoreL_n C (pc := 83) (lw := fun x11 => [(3, .int x11), (0, .ref (z_ad z 45)), (1, .int a1), (2, .int a2)]) dX5_laysPrices_83 (by decide) (fun _ => rfl) h (fun x11 h => ?_)
          refine ps_aload_n C (pc := 84) dX5_laysPrices_84 1 rfl ?_
          refine pg_45_19 C (pc := 85) tw_815 dX5_laysPrices_85 ?_
          refine ps_iload_n C (pc := 88) dX5_laysPrices_88 2 rfl ?_
          obtain ⟨hi12, h⟩ := ps_ck_s h
          refine ps_iald C (pc := 89) 55 rfl rfl hi12 dX5_laysPrices_89 ?_
          refine ps_iconst C (pc := 90) (v := -1) dX5_laysPrices_90 (by decide) ?_
          refine ps_icmp_eq C (pc := 91) 104 dX5_laysPrices_91 (by decide) (fun hc => ?_) (fun hc => ?_)
          · have h := ps_ift hc h
            exact ps_sub [1, 2, 3, 0] rfl (tX5_laysPrices_J104 C Z  h k)
          · have h := ps_iff hc h
            refine ps_iload_n C (pc := 94) dX5_laysPrices_94 0 rfl ?_
            refine ps_aload_n C (pc := 95) dX5_laysPrices_95 1 rfl ?_
            refine pg_45_19 C (pc := 96) tw_815 dX5_laysPrices_96 ?_
            refine ps_iload_n C (pc := 99) dX5_laysPrices_99 2 rfl ?_
            obtain ⟨hi15, h⟩ := ps_ck_s h
            refine ps_iald C (pc := 100) 55 rfl rfl hi15 dX5_laysPrices_100 ?_
            refine ps_icmp_ge C (pc := 101) 111 dX5_laysPrices_101 (by decide) (fun hc => ?_) (fun hc => ?_)
            · have h := ps_ift hc h
              exact ps_sub [1, 2, 3] rfl (tX5_laysPrices_J111 C Z  h k)
            · have h := ps_iff hc h
              exact ps_sub [1, 2, 3, 0] rfl (tX5_laysPrices_J104 C Z  h k)
        · have h := ps_ift hc h
          refine ps_goto C (pc := 61) 111 dX5_laysPrices_61 (by decide) ?_
          exact ps_sub [0, 1, 2] rfl (tX5_laysPrices_J111 C Z  h k)
def fX5_laysPrices_S9  (a1 : Int32) (σ : ps_S) : Option ((Int32 × ps_S) ⊕ ((ps_S))) :=
  ((fX5_all σ).bind fun q3 =>
  (if q3 < a1 then some (.inr σ)
  else (ps_ck a1 256 ((ps_let (ps_ui σ 55 (Int32.toNatClampNeg a1) (-1 : Int32)) fun σ5 =>
  ((ps_lp (fun s => fX5_laysPrices_S26 a1 s.1 s.2) 100000 (a1, σ5)).bind fun e16 =>
  (ps_let (a1 + (1 : Int32)) fun x17 =>
  some (.inl (x17, e16)))))))))
set_option maxHeartbeats 4000000 in
set_option maxRecDepth 100000 in
theorem tX5_laysPrices_S9 {z : ps_X} (C : ps_C z cX5_laysPrices 4 "PartSumsModel") (Z : ps_Z z 2 40)   (s : Int32 × ps_S) (r : (Int32 × ps_S) ⊕ ((ps_S))) (h : fX5_laysPrices_S9  s.1 s.2 = some r) (k : ps_k (pX5_laysPrices_S9 z ) (qX5_laysPrices_S9 z ) r) : pX5_laysPrices_S9 z  s := by
  obtain ⟨a1, σ⟩ := s
  unfold fX5_laysPrices_S9 at h
  unfold pX5_laysPrices_S9
  refine ps_iload_n C (pc := 9) dX5_laysPrices_9 1 rfl ?_
  refine ps_aload_n C (pc := 10) dX5_laysPrices_10 0 rfl ?_
  obtain ⟨q3, hq3, h⟩ := ps_bd h
  refine ps_callVI C Z (pc := 11) (As := []) (k0 := 45) (mX5_all  hq3) (Cn := "PartSumsModel") rfl tw_954 tw_956 tw_38 tw_70 tw_957 hdX5_all rfl rfl ⟨by decide, by decide⟩ (by decide) ps_o45 rfl rfl (Nat.le_of_ble_eq_true rfl) dX5_laysPrices_11 rfl ?_
  refine ps_icmp_gt C (pc := 14) 126 dX5_laysPrices_14 (by decide) (fun hc => ?_) (fun hc => ?_)
  · have h := ps_ift hc h
    obtain rfl := Option.some.inj h
    exact ps_sub [] rfl k
  · have h := ps_iff hc h
    refine ps_aload_n C (pc := 17) dX5_laysPrices_17 0 rfl ?_
    refine pg_45_19 C (pc := 18) tw_815 dX5_laysPrices_18 ?_
    refine ps_iload_n C (pc := 21) dX5_laysPrices_21 1 rfl ?_
    refine ps_iconst C (pc := 22) (v := -1) dX5_laysPrices_22 (by decide) ?_
    obtain ⟨hi4, h⟩ := ps_ck_s h
    refine ps_iastL C (pc := 23) 55 rfl rfl hi4 dX5_laysPrices_23 h (fun σ5 h => ?_)
    refine ps_iload_n C (pc := 24) dX5_laysPrices_24 1 rfl ?_
    refine ps_istore_n C (pc := 25) (lv' := [(2, .int a1), (0, .ref (z_ad z 45)), (1, .int a1)]) dX5_laysPrices_25 (by decide) rfl ?_
    obtain ⟨e16, he16, h⟩ := ps_bd h
    refine ps_sub [1, 2, 0] rfl ?_
    refine ps_loop (P := pX5_laysPrices_S26 z a1) (K := qX5_laysPrices_S26 z a1) (fun s r h k => tX5_laysPrices_S26 C Z a1  s r h k) _ _ _ he16 ?_
    unfold qX5_laysPrices_S26
    refine ps_iincL C (pc := 120) (zz := 1) (lw := fun x17 => [(1, .int x17), (0, .ref (z_ad z 45))]) dX5_laysPrices_120 1 rfl (by decide) (by decide) (fun _ => rfl) h (fun x17 h => ?_)
    refine ps_goto C (pc := 123) 9 dX5_laysPrices_123 (by decide) ?_
    obtain rfl := Option.some.inj h
    exact ps_sub [1, 0] rfl k
def fX5_laysPrices (σ : ps_S) : Option (ps_S) :=
  (ps_ck (0 : Int32) 256 ((ps_let (ps_ui σ 55 (Int32.toNatClampNeg (0 : Int32)) (0 : Int32)) fun σ2 =>
  ((ps_lp (fun s => fX5_laysPrices_S9  s.1 s.2) 100000 ((1 : Int32), σ2)).bind fun e18 =>
  some e18))))
set_option maxHeartbeats 4000000 in
set_option maxRecDepth 100000 in
theorem tX5_laysPrices {z : ps_X} (C : ps_C z cX5_laysPrices 4 "PartSumsModel") (Z : ps_Z z 2 40) {σ : ps_S}  {r : ps_S} (h : fX5_laysPrices σ = some r) (k : ps_KV z 4 cX5_laysPrices r) : ps_at z 4 0 [(0, .ref (z_ad z 45))] [] σ := by
  unfold fX5_laysPrices at h
  refine ps_aload_n C (pc := 0) dX5_laysPrices_0 0 rfl ?_
  refine pg_45_19 C (pc := 1) tw_815 dX5_laysPrices_1 ?_
  refine ps_iconst C (pc := 4) (v := 0) dX5_laysPrices_4 (by decide) ?_
  refine ps_iconst C (pc := 5) (v := 0) dX5_laysPrices_5 (by decide) ?_
  obtain ⟨hi1, h⟩ := ps_ck_s h
  refine ps_iastL C (pc := 6) 55 rfl rfl hi1 dX5_laysPrices_6 h (fun σ2 h => ?_)
  refine ps_iconst C (pc := 7) (v := 1) dX5_laysPrices_7 (by decide) ?_
  refine ps_istore_n C (pc := 8) (lv' := [(1, .int (1 : Int32)), (0, .ref (z_ad z 45))]) dX5_laysPrices_8 (by decide) rfl ?_
  obtain ⟨e18, he18, h⟩ := ps_bd h
  refine ps_sub [1, 0] rfl ?_
  refine ps_loop (P := pX5_laysPrices_S9 z ) (K := qX5_laysPrices_S9 z ) (fun s r h k => tX5_laysPrices_S9 C Z   s r h k) _ _ _ he18 ?_
  unfold qX5_laysPrices_S9
  obtain rfl := Option.some.inj h
  exact k _ _ dX5_laysPrices_126
def rmX5_laysPrices : Room := { frames := 2, cells := 0, slots := 0, locals := 40 }
theorem mX5_laysPrices {l : Launch} {E : ps_E} {σ : ps_S}  {r : ps_S}  (h : fX5_laysPrices σ = some r) : ps_MV l yX5_laysPrices (ps_wm yX5_laysPrices cX5_laysPrices 4 none) rmX5_laysPrices [.ref (e_ad E 45)] E σ r :=
  ps_metV yX5_laysPrices rmX5_laysPrices 4 (own := "PartSumsModel")  (by decide +kernel) rfl (Nat.le_of_ble_eq_true rfl) rfl (fun z e1 e2 e3 e4 e5 C k => by
    subst e5
    exact tX5_laysPrices C (ps_Zof e1 e3 e4)  h k)
theorem hdX5_laysPrices : yX5_laysPrices.cls ≠ "java/lang/invoke/MethodHandle" ∧ yX5_laysPrices.cls ≠ "java/lang/invoke/VarHandle" ∧ (parseMethodDescriptor yX5_laysPrices.desc).map (fun d => d.parameters.length) = some 0 := by decide +kernel
def fX5_cheapest (a1 : Int32) (σ : ps_S) : Option (Int32 × ps_S) :=
  (ps_let (ps_ui σ 45 0 (0 : Int32)) fun σ1 =>
  ((fX5_isSet a1 σ1).bind fun q2 =>
  (if q2 = 0 then some ((-1 : Int32), σ1)
  else ((fX5_laysPrices σ1).bind fun q3 =>
  (ps_ck a1 256 (some ((q3.1 55 (Int32.toNatClampNeg a1)), q3)))))))
set_option maxHeartbeats 4000000 in
set_option maxRecDepth 100000 in
theorem tX5_cheapest {z : ps_X} (C : ps_C z cX5_cheapest 2 "PartSumsModel") (Z : ps_Z z 3 63) {a1 : Int32} {σ : ps_S}  {r : Int32 × ps_S} (h : fX5_cheapest a1 σ = some r) (k : ps_KI z 2 cX5_cheapest r.1 r.2) : ps_at z 2 0 [(0, .ref (z_ad z 45)), (1, .int a1)] [] σ := by
  unfold fX5_cheapest at h
  refine ps_aload_n C (pc := 0) dX5_cheapest_0 0 rfl ?_
  refine ps_iconst C (pc := 1) (v := 0) dX5_cheapest_1 (by decide) ?_
  refine pp_45_0 C (pc := 2) tw_796 dX5_cheapest_2 h (fun σ1 h => ?_)
  refine ps_aload_n C (pc := 5) dX5_cheapest_5 0 rfl ?_
  refine ps_iload_n C (pc := 6) dX5_cheapest_6 1 rfl ?_
  obtain ⟨q2, hq2, h⟩ := ps_bd h
  refine ps_callVI C Z (pc := 7) (As := [.int a1]) (k0 := 45) (mX5_isSet  hq2) (Cn := "PartSumsModel") rfl tw_966 tw_968 tw_40 tw_70 tw_969 hdX5_isSet rfl rfl ⟨by decide, by decide⟩ (by decide) ps_o45 rfl rfl (Nat.le_of_ble_eq_true rfl) dX5_cheapest_7 rfl ?_
  refine ps_if_ne C (pc := 10) 15 dX5_cheapest_10 (by decide) (fun hc => ?_) (fun hc => ?_)
  · have h := ps_iff hc h
    refine ps_aload_n C (pc := 15) dX5_cheapest_15 0 rfl ?_
    obtain ⟨q3, hq3, h⟩ := ps_bd h
    refine ps_callVV C Z (pc := 16) (As := []) (k0 := 45) (mX5_laysPrices  hq3) (Cn := "PartSumsModel") rfl tw_1098 tw_1100 tw_56 tw_70 tw_1101 hdX5_laysPrices rfl rfl ⟨by decide, by decide⟩ (by decide) ps_o45 rfl rfl (Nat.le_of_ble_eq_true rfl) dX5_cheapest_16 rfl ?_
    refine ps_aload_n C (pc := 19) dX5_cheapest_19 0 rfl ?_
    refine pg_45_19 C (pc := 20) tw_815 dX5_cheapest_20 ?_
    refine ps_iload_n C (pc := 23) dX5_cheapest_23 1 rfl ?_
    obtain ⟨hi4, h⟩ := ps_ck_s h
    refine ps_iald C (pc := 24) 55 rfl rfl hi4 dX5_cheapest_24 ?_
    obtain rfl := Option.some.inj h
    exact k _ _ dX5_cheapest_25
  · have h := ps_ift hc h
    refine ps_iconst C (pc := 13) (v := -1) dX5_cheapest_13 (by decide) ?_
    obtain rfl := Option.some.inj h
    exact k _ _ dX5_cheapest_14
def rmX5_cheapest : Room := { frames := 3, cells := 0, slots := 0, locals := 63 }
theorem mX5_cheapest {l : Launch} {E : ps_E} {σ : ps_S} {a1 : Int32} {r : Int32 × ps_S}  (h : fX5_cheapest a1 σ = some r) : ps_MI l yX5_cheapest (ps_wm yX5_cheapest cX5_cheapest 2 (some .int)) rmX5_cheapest [.ref (e_ad E 45), .int a1] E σ r.1 r.2 :=
  ps_metI yX5_cheapest rmX5_cheapest 2 (own := "PartSumsModel") r.1 (by decide +kernel) rfl (Nat.le_of_ble_eq_true rfl) rfl (fun z e1 e2 e3 e4 e5 C k => by
    subst e5
    exact tX5_cheapest C (ps_Zof e1 e3 e4)  h k)
theorem hdX5_cheapest : yX5_cheapest.cls ≠ "java/lang/invoke/MethodHandle" ∧ yX5_cheapest.cls ≠ "java/lang/invoke/VarHandle" ∧ (parseMethodDescriptor yX5_cheapest.desc).map (fun d => d.parameters.length) = some 1 := by decide +kernel
def fX5_part_J17 (σ : ps_S) : Option (Int32 × ps_S) :=
  ((fX5_refuse σ).bind fun q3 =>
  some (q3.1, q3.2))
set_option maxHeartbeats 4000000 in
set_option maxRecDepth 100000 in
theorem tX5_part_J17 {z : ps_X} (C : ps_C z cX5_part 6 "PartSumsModel") (Z : ps_Z z 3 63) {σ : ps_S}  {r : Int32 × ps_S} (h : fX5_part_J17 σ = some r) (k : ps_KI z 6 cX5_part r.1 r.2) : ps_at z 6 17 [(0, .ref (z_ad z 45))] [] σ := by
  unfold fX5_part_J17 at h
  refine ps_aload_n C (pc := 17) dX5_part_17 0 rfl ?_
  obtain ⟨q3, hq3, h⟩ := ps_bd h
  refine ps_callVI C Z (pc := 18) (As := []) (k0 := 45) (mX5_refuse  hq3) (Cn := "PartSumsModel") rfl tw_1106 tw_1108 tw_57 tw_70 tw_1109 hdX5_refuse rfl rfl ⟨by decide, by decide⟩ (by decide) ps_o45 rfl rfl (Nat.le_of_ble_eq_true rfl) dX5_part_18 rfl ?_
  obtain rfl := Option.some.inj h
  exact k _ _ dX5_part_21
def pX5_part_S46 (z : ps_X) (a2 : Int32) (σ : ps_S) (s : Int32 × Int32) : Prop := ps_at z 6 46 [(0, .ref (z_ad z 45)), (2, .int a2), (3, .int s.1), (4, .int s.2)] [] σ
def qX5_part_S46 (z : ps_X) (a2 : Int32) (σ : ps_S) (x : (Int32) ⊕ (Unit)) : Prop := match x with | .inl y => ps_at z 6 141 [(5, .int y)] [] σ | .inr y => ps_at z 6 157 [(0, .ref (z_ad z 45))] [] σ
def pX5_part_S56 (z : ps_X) (a2 : Int32) (a3 : Int32) (a4 : Int32) (σ : ps_S) (s : Int32) : Prop := ps_at z 6 56 [(0, .ref (z_ad z 45)), (2, .int a2), (3, .int a3), (4, .int a4), (5, .int s)] [] σ
def qX5_part_S56 (z : ps_X) (a2 : Int32) (a3 : Int32) (a4 : Int32) (σ : ps_S) (x : (Int32)) : Prop := match x with | y => ps_at z 6 135 [(0, .ref (z_ad z 45)), (2, .int a2), (3, .int a3), (4, .int a4), (5, .int y)] [] σ
def fX5_part_J129 (a2 : Int32) (a3 : Int32) (a4 : Int32) (a5 : Int32) (σ : ps_S) : Option ((Int32) ⊕ ((Int32))) :=
  (ps_let (a5 + (1 : Int32)) fun x7 =>
  some (.inl x7))
set_option maxHeartbeats 4000000 in
set_option maxRecDepth 100000 in
theorem tX5_part_J129 {z : ps_X} (C : ps_C z cX5_part 6 "PartSumsModel") (Z : ps_Z z 3 63) {a2 : Int32} {a3 : Int32} {a4 : Int32} {a5 : Int32} {σ : ps_S}  {r : (Int32) ⊕ ((Int32))} (h : fX5_part_J129 a2 a3 a4 a5 σ = some r) (k : ps_k (pX5_part_S56 z a2 a3 a4 σ) (qX5_part_S56 z a2 a3 a4 σ) r) : ps_at z 6 129 [(0, .ref (z_ad z 45)), (2, .int a2), (3, .int a3), (4, .int a4), (5, .int a5)] [] σ := by
  unfold fX5_part_J129 at h
  refine ps_iincL C (pc := 129) (zz := 1) (lw := fun x7 => [(5, .int x7), (0, .ref (z_ad z 45)), (2, .int a2), (3, .int a3), (4, .int a4)]) dX5_part_129 4 rfl (by decide) (by decide) (fun _ => rfl) h (fun x7 h => ?_)
  refine ps_goto C (pc := 132) 56 dX5_part_132 (by decide) ?_
  obtain rfl := Option.some.inj h
  exact ps_sub [1, 2, 3, 4, 0] rfl k
def fX5_part_S56 (a2 : Int32) (a3 : Int32) (a4 : Int32) (σ : ps_S) (a5 : Int32) : Option ((Int32) ⊕ ((Int32))) :=
  (if (a5 &&& (a3 ^^^ (-1 : Int32))) = 0 then (if ((a5 &&& a3) &&& (-a3)) = 0 then fX5_part_J129 a2 a3 a4 a5 σ
  else ((fX5_isTold a5 σ).bind fun q8 =>
  (if q8 = 0 then fX5_part_J129 a2 a3 a4 a5 σ
  else (ps_ck (a3 &&& (a5 ^^^ (-1 : Int32))) 256 ((if (σ.1 55 (Int32.toNatClampNeg (a3 &&& (a5 ^^^ (-1 : Int32))))) = (-1 : Int32) then fX5_part_J129 a2 a3 a4 a5 σ
  else (ps_ck ((1 : Int32) + a5) 1289 ((ps_ck (a3 &&& (a5 ^^^ (-1 : Int32))) 256 ((ps_ck a3 256 ((if ((σ.1 47 (Int32.toNatClampNeg ((1 : Int32) + a5))) + (σ.1 55 (Int32.toNatClampNeg (a3 &&& (a5 ^^^ (-1 : Int32)))))) = (σ.1 55 (Int32.toNatClampNeg a3)) then some (.inr a5)
  else fX5_part_J129 a2 a3 a4 a5 σ)))))))))))))
  else fX5_part_J129 a2 a3 a4 a5 σ)
set_option maxHeartbeats 4000000 in
set_option maxRecDepth 100000 in
theorem tX5_part_S56 {z : ps_X} (C : ps_C z cX5_part 6 "PartSumsModel") (Z : ps_Z z 3 63) (a2 : Int32) (a3 : Int32) (a4 : Int32) (σ : ps_S)  (s : Int32) (r : (Int32) ⊕ ((Int32))) (h : fX5_part_S56 a2 a3 a4 σ s = some r) (k : ps_k (pX5_part_S56 z a2 a3 a4 σ) (qX5_part_S56 z a2 a3 a4 σ) r) : pX5_part_S56 z a2 a3 a4 σ s := by
  generalize s = a5 at h ⊢
  unfold fX5_part_S56 at h
  unfold pX5_part_S56
  refine ps_iload C (pc := 56) dX5_part_56 4 rfl ?_
  refine ps_iload_n C (pc := 58) dX5_part_58 2 rfl ?_
  refine ps_iconst C (pc := 59) (v := -1) dX5_part_59 (by decide) ?_
  refine ps_ixor C (pc := 60) dX5_part_60 ?_
  refine ps_iand C (pc := 61) dX5_part_61 ?_
  refine ps_if_ne C (pc := 62) 129 dX5_part_62 (by decide) (fun hc => ?_) (fun hc => ?_)
  · have h := ps_iff hc h
    exact ps_sub [0, 1, 2, 3, 4] rfl (tX5_part_J129 C Z  h k)
  · have h := ps_ift hc h
    refine ps_iload C (pc := 65) dX5_part_65 4 rfl ?_
    refine ps_iload_n C (pc := 67) dX5_part_67 2 rfl ?_
    refine ps_iand C (pc := 68) dX5_part_68 ?_
    refine ps_iload_n C (pc := 69) dX5_part_69 2 rfl ?_
    refine ps_ineg C (pc := 70) dX5_part_70 ?_
    refine ps_iand C (pc := 71) dX5_part_71 ?_
    refine ps_if_eq C (pc := 72) 129 dX5_part_72 (by decide) (fun hc => ?_) (fun hc => ?_)
    · have h := ps_ift hc h
      exact ps_sub [0, 1, 2, 3, 4] rfl (tX5_part_J129 C Z  h k)
    · have h := ps_iff hc h
      refine ps_aload_n C (pc := 75) dX5_part_75 0 rfl ?_
      refine ps_iload C (pc := 76) dX5_part_76 4 rfl ?_
      obtain ⟨q8, hq8, h⟩ := ps_bd h
      refine ps_callVI C Z (pc := 78) (As := [.int a5]) (k0 := 45) (mX5_isTold  hq8) (Cn := "PartSumsModel") rfl tw_1081 tw_1083 tw_54 tw_70 tw_1084 hdX5_isTold rfl rfl ⟨by decide, by decide⟩ (by decide) ps_o45 rfl rfl (Nat.le_of_ble_eq_true rfl) dX5_part_78 rfl ?_
      refine ps_if_eq C (pc := 81) 129 dX5_part_81 (by decide) (fun hc => ?_) (fun hc => ?_)
      · have h := ps_ift hc h
        exact ps_sub [0, 1, 2, 3, 4] rfl (tX5_part_J129 C Z  h k)
      · have h := ps_iff hc h
        refine ps_aload_n C (pc := 84) dX5_part_84 0 rfl ?_
        refine pg_45_19 C (pc := 85) tw_815 dX5_part_85 ?_
        refine ps_iload_n C (pc := 88) dX5_part_88 2 rfl ?_
        refine ps_iload C (pc := 89) dX5_part_89 4 rfl ?_
        refine ps_iconst C (pc := 91) (v := -1) dX5_part_91 (by decide) ?_
        refine ps_ixor C (pc := 92) dX5_part_92 ?_
        refine ps_iand C (pc := 93) dX5_part_93 ?_
        obtain ⟨hi9, h⟩ := ps_ck_s h
        refine ps_iald C (pc := 94) 55 rfl rfl hi9 dX5_part_94 ?_
        refine ps_iconst C (pc := 95) (v := -1) dX5_part_95 (by decide) ?_
        refine ps_icmp_eq C (pc := 96) 129 dX5_part_96 (by decide) (fun hc => ?_) (fun hc => ?_)
        · have h := ps_ift hc h
          exact ps_sub [0, 1, 2, 3, 4] rfl (tX5_part_J129 C Z  h k)
        · have h := ps_iff hc h
          refine ps_aload_n C (pc := 99) dX5_part_99 0 rfl ?_
          refine pg_45_10 C (pc := 100) tw_806 dX5_part_100 ?_
          refine ps_iconst C (pc := 103) (v := 1) dX5_part_103 (by decide) ?_
          refine ps_iload C (pc := 104) dX5_part_104 4 rfl ?_
          refine ps_iadd C (pc := 106) dX5_part_106 ?_
          obtain ⟨hi10, h⟩ := ps_ck_s h
          refine ps_iald C (pc := 107) 47 rfl rfl hi10 dX5_part_107 ?_
          refine ps_aload_n C (pc := 108) dX5_part_108 0 rfl ?_
          refine pg_45_19 C (pc := 109) tw_815 dX5_part_109 ?_
          refine ps_iload_n C (pc := 112) dX5_part_112 2 rfl ?_
          refine ps_iload C (pc := 113) dX5_part_113 4 rfl ?_
          refine ps_iconst C (pc := 115) (v := -1) dX5_part_115 (by decide) ?_
          refine ps_ixor C (pc := 116) dX5_part_116 ?_
          refine ps_iand C (pc := 117) dX5_part_117 ?_
          obtain ⟨hi11, h⟩ := ps_ck_s h
          refine ps_iald C (pc := 118) 55 rfl rfl hi11 dX5_part_118 ?_
          refine ps_iadd C (pc := 119) dX5_part_119 ?_
          refine ps_aload_n C (pc := 120) dX5_part_120 0 rfl ?_
          refine pg_45_19 C (pc := 121) tw_815 dX5_part_121 ?_
          refine ps_iload_n C (pc := 124) dX5_part_124 2 rfl ?_
          obtain ⟨hi12, h⟩ := ps_ck_s h
          refine ps_iald C (pc := 125) 55 rfl rfl hi12 dX5_part_125 ?_
          refine ps_icmp_eq C (pc := 126) 135 dX5_part_126 (by decide) (fun hc => ?_) (fun hc => ?_)
          · have h := ps_ift hc h
            obtain rfl := Option.some.inj h
            exact ps_sub [0, 1, 2, 3, 4] rfl k
          · have h := ps_iff hc h
            exact ps_sub [0, 1, 2, 3, 4] rfl (tX5_part_J129 C Z  h k)
def fX5_part_S46 (a2 : Int32) (σ : ps_S) (a3 : Int32) (a4 : Int32) : Option ((Int32 × Int32) ⊕ ((Int32) ⊕ (Unit))) :=
  (if a3 = 0 then some (.inr (.inr ()))
  else (ps_let (a3 &&& (-a3)) fun x6 =>
  ((ps_lp (fun s => fX5_part_S56 a2 a3 a4 σ s) 100000 x6).bind fun e13 =>
  (if a4 = a2 then some (.inr (.inl e13))
  else (ps_let (a3 &&& (e13 ^^^ (-1 : Int32))) fun x14 =>
  (ps_let (a4 + (1 : Int32)) fun x15 =>
  some (.inl (x14, x15))))))))
set_option maxHeartbeats 4000000 in
set_option maxRecDepth 100000 in
theorem tX5_part_S46 {z : ps_X} (C : ps_C z cX5_part 6 "PartSumsModel") (Z : ps_Z z 3 63) (a2 : Int32) (σ : ps_S)  (s : Int32 × Int32) (r : (Int32 × Int32) ⊕ ((Int32) ⊕ (Unit))) (h : fX5_part_S46 a2 σ s.1 s.2 = some r) (k : ps_k (pX5_part_S46 z a2 σ) (qX5_part_S46 z a2 σ) r) : pX5_part_S46 z a2 σ s := by
  obtain ⟨a3, a4⟩ := s
  unfold fX5_part_S46 at h
  unfold pX5_part_S46
  refine ps_iload_n C (pc := 46) dX5_part_46 2 rfl ?_
  refine ps_if_eq C (pc := 47) 157 dX5_part_47 (by decide) (fun hc => ?_) (fun hc => ?_)
  · have h := ps_ift hc h
    obtain rfl := Option.some.inj h
    exact ps_sub [0] rfl k
  · have h := ps_iff hc h
    refine ps_iload_n C (pc := 50) dX5_part_50 2 rfl ?_
    refine ps_iload_n C (pc := 51) dX5_part_51 2 rfl ?_
    refine ps_ineg C (pc := 52) dX5_part_52 ?_
    refine ps_iand C (pc := 53) dX5_part_53 ?_
    refine ps_istoreL C (pc := 54) (lw := fun x6 => [(5, .int x6), (0, .ref (z_ad z 45)), (2, .int a2), (3, .int a3), (4, .int a4)]) dX5_part_54 (by decide) (fun _ => rfl) h (fun x6 h => ?_)
    obtain ⟨e13, he13, h⟩ := ps_bd h
    refine ps_sub [1, 2, 3, 4, 0] rfl ?_
    refine ps_loop (P := pX5_part_S56 z a2 a3 a4 σ) (K := qX5_part_S56 z a2 a3 a4 σ) (fun s r h k => tX5_part_S56 C Z a2 a3 a4 σ  s r h k) _ _ _ he13 ?_
    unfold qX5_part_S56
    refine ps_iload C (pc := 135) dX5_part_135 3 rfl ?_
    refine ps_iload_n C (pc := 137) dX5_part_137 1 rfl ?_
    refine ps_icmp_ne C (pc := 138) 144 dX5_part_138 (by decide) (fun hc => ?_) (fun hc => ?_)
    · have h := ps_iff hc h
      refine ps_iload_n C (pc := 144) dX5_part_144 2 rfl ?_
      refine ps_iload C (pc := 145) dX5_part_145 4 rfl ?_
      refine ps_iconst C (pc := 147) (v := -1) dX5_part_147 (by decide) ?_
      refine ps_ixor C (pc := 148) dX5_part_148 ?_
      refine ps_iand C (pc := 149) dX5_part_149 ?_
      refine ps_istoreL_n C (pc := 150) (lw := fun x14 => [(3, .int x14), (0, .ref (z_ad z 45)), (2, .int a2), (4, .int a4), (5, .int e13)]) dX5_part_150 (by decide) (fun _ => rfl) h (fun x14 h => ?_)
      refine ps_iincL C (pc := 151) (zz := 1) (lw := fun x15 => [(4, .int x15), (3, .int x14), (0, .ref (z_ad z 45)), (2, .int a2), (5, .int e13)]) dX5_part_151 3 rfl (by decide) (by decide) (fun _ => rfl) h (fun x15 h => ?_)
      refine ps_goto C (pc := 154) 46 dX5_part_154 (by decide) ?_
      obtain rfl := Option.some.inj h
      exact ps_sub [2, 3, 1, 0] rfl k
    · have h := ps_ift hc h
      obtain rfl := Option.some.inj h
      exact ps_sub [4] rfl k
def fX5_part (a1 : Int32) (a2 : Int32) (σ : ps_S) : Option (Int32 × ps_S) :=
  (ps_let (ps_ui σ 45 0 (0 : Int32)) fun σ1 =>
  ((fX5_isSet a1 σ1).bind fun q2 =>
  (if q2 = 0 then fX5_part_J17 σ1
  else (if 0 ≤ a2 then ((fX5_laysPrices σ1).bind fun q4 =>
  (ps_ck a1 256 ((if (q4.1 55 (Int32.toNatClampNeg a1)) = (-1 : Int32) then ((fX5_refuse q4).bind fun q20 =>
  some (q20.1, q20.2))
  else ((ps_lp (fun s => fX5_part_S46 a2 q4 s.1 s.2) 100000 (a1, (0 : Int32))).bind fun e16 =>
  match e16 with | .inl y17 => some (y17, q4) | .inr y18 => ((fX5_refuse q4).bind fun q19 =>
  some (q19.1, q19.2)))))))
  else fX5_part_J17 σ1))))
set_option maxHeartbeats 4000000 in
set_option maxRecDepth 100000 in
theorem tX5_part {z : ps_X} (C : ps_C z cX5_part 6 "PartSumsModel") (Z : ps_Z z 3 63) {a1 : Int32} {a2 : Int32} {σ : ps_S}  {r : Int32 × ps_S} (h : fX5_part a1 a2 σ = some r) (k : ps_KI z 6 cX5_part r.1 r.2) : ps_at z 6 0 [(0, .ref (z_ad z 45)), (1, .int a1), (2, .int a2)] [] σ := by
  unfold fX5_part at h
  refine ps_aload_n C (pc := 0) dX5_part_0 0 rfl ?_
  refine ps_iconst C (pc := 1) (v := 0) dX5_part_1 (by decide) ?_
  refine pp_45_0 C (pc := 2) tw_796 dX5_part_2 h (fun σ1 h => ?_)
  refine ps_aload_n C (pc := 5) dX5_part_5 0 rfl ?_
  refine ps_iload_n C (pc := 6) dX5_part_6 1 rfl ?_
  obtain ⟨q2, hq2, h⟩ := ps_bd h
  refine ps_callVI C Z (pc := 7) (As := [.int a1]) (k0 := 45) (mX5_isSet  hq2) (Cn := "PartSumsModel") rfl tw_966 tw_968 tw_40 tw_70 tw_969 hdX5_isSet rfl rfl ⟨by decide, by decide⟩ (by decide) ps_o45 rfl rfl (Nat.le_of_ble_eq_true rfl) dX5_part_7 rfl ?_
  refine ps_if_eq C (pc := 10) 17 dX5_part_10 (by decide) (fun hc => ?_) (fun hc => ?_)
  · have h := ps_ift hc h
    exact ps_sub [0] rfl (tX5_part_J17 C Z  h k)
  · have h := ps_iff hc h
    refine ps_iload_n C (pc := 13) dX5_part_13 2 rfl ?_
    refine ps_if_ge C (pc := 14) 22 dX5_part_14 (by decide) (fun hc => ?_) (fun hc => ?_)
    · have h := ps_ift hc h
      refine ps_aload_n C (pc := 22) dX5_part_22 0 rfl ?_
      obtain ⟨q4, hq4, h⟩ := ps_bd h
      refine ps_callVV C Z (pc := 23) (As := []) (k0 := 45) (mX5_laysPrices  hq4) (Cn := "PartSumsModel") rfl tw_1098 tw_1100 tw_56 tw_70 tw_1101 hdX5_laysPrices rfl rfl ⟨by decide, by decide⟩ (by decide) ps_o45 rfl rfl (Nat.le_of_ble_eq_true rfl) dX5_part_23 rfl ?_
      refine ps_aload_n C (pc := 26) dX5_part_26 0 rfl ?_
      refine pg_45_19 C (pc := 27) tw_815 dX5_part_27 ?_
      refine ps_iload_n C (pc := 30) dX5_part_30 1 rfl ?_
      obtain ⟨hi5, h⟩ := ps_ck_s h
      refine ps_iald C (pc := 31) 55 rfl rfl hi5 dX5_part_31 ?_
      refine ps_iconst C (pc := 32) (v := -1) dX5_part_32 (by decide) ?_
      refine ps_icmp_ne C (pc := 33) 41 dX5_part_33 (by decide) (fun hc => ?_) (fun hc => ?_)
      · have h := ps_iff hc h
        refine ps_iload_n C (pc := 41) dX5_part_41 1 rfl ?_
        refine ps_istore_n C (pc := 42) (lv' := [(3, .int a1), (0, .ref (z_ad z 45)), (1, .int a1), (2, .int a2)]) dX5_part_42 (by decide) rfl ?_
        refine ps_iconst C (pc := 43) (v := 0) dX5_part_43 (by decide) ?_
        refine ps_istore C (pc := 44) (lv' := [(4, .int (0 : Int32)), (3, .int a1), (0, .ref (z_ad z 45)), (1, .int a1), (2, .int a2)]) dX5_part_44 (by decide) rfl ?_
        obtain ⟨e16, he16, h⟩ := ps_bd h
        refine ps_sub [2, 4, 1, 0] rfl ?_
        refine ps_loop (P := pX5_part_S46 z a2 q4) (K := qX5_part_S46 z a2 q4) (fun s r h k => tX5_part_S46 C Z a2 q4  s r h k) _ _ _ he16 ?_
        unfold qX5_part_S46
        rcases e16 with y17 | w_y17
        · refine ps_iload C (pc := 141) dX5_part_141 0 rfl ?_
          obtain rfl := Option.some.inj h
          exact k _ _ dX5_part_143
        · generalize w_y17 = y18 at h ⊢
          refine ps_aload_n C (pc := 157) dX5_part_157 0 rfl ?_
          obtain ⟨q19, hq19, h⟩ := ps_bd h
          refine ps_callVI C Z (pc := 158) (As := []) (k0 := 45) (mX5_refuse  hq19) (Cn := "PartSumsModel") rfl tw_1106 tw_1108 tw_57 tw_70 tw_1109 hdX5_refuse rfl rfl ⟨by decide, by decide⟩ (by decide) ps_o45 rfl rfl (Nat.le_of_ble_eq_true rfl) dX5_part_158 rfl ?_
          obtain rfl := Option.some.inj h
          exact k _ _ dX5_part_161
      · have h := ps_ift hc h
        refine ps_aload_n C (pc := 36) dX5_part_36 0 rfl ?_
        obtain ⟨q20, hq20, h⟩ := ps_bd h
        refine ps_callVI C Z (pc := 37) (As := []) (k0 := 45) (mX5_refuse  hq20) (Cn := "PartSumsModel") rfl tw_1106 tw_1108 tw_57 tw_70 tw_1109 hdX5_refuse rfl rfl ⟨by decide, by decide⟩ (by decide) ps_o45 rfl rfl (Nat.le_of_ble_eq_true rfl) dX5_part_37 rfl ?_
        obtain rfl := Option.some.inj h
        exact k _ _ dX5_part_40
    · have h := ps_iff hc h
      exact ps_sub [0] rfl (tX5_part_J17 C Z  h k)
def rmX5_part : Room := { frames := 3, cells := 0, slots := 0, locals := 63 }
theorem mX5_part {l : Launch} {E : ps_E} {σ : ps_S} {a1 : Int32} {a2 : Int32} {r : Int32 × ps_S}  (h : fX5_part a1 a2 σ = some r) : ps_MI l yX5_part (ps_wm yX5_part cX5_part 6 (some .int)) rmX5_part [.ref (e_ad E 45), .int a1, .int a2] E σ r.1 r.2 :=
  ps_metI yX5_part rmX5_part 6 (own := "PartSumsModel") r.1 (by decide +kernel) rfl (Nat.le_of_ble_eq_true rfl) rfl (fun z e1 e2 e3 e4 e5 C k => by
    subst e5
    exact tX5_part C (ps_Zof e1 e3 e4)  h k)
theorem hdX5_part : yX5_part.cls ≠ "java/lang/invoke/MethodHandle" ∧ yX5_part.cls ≠ "java/lang/invoke/VarHandle" ∧ (parseMethodDescriptor yX5_part.desc).map (fun d => d.parameters.length) = some 2 := by decide +kernel
def pX5_laysPlain_S2 (z : ps_X)  (s : Int32 × ps_S) : Prop := ps_at z 4 2 [(0, .ref (z_ad z 45)), (1, .int s.1)] [] s.2
def qX5_laysPlain_S2 (z : ps_X)  (x : (ps_S)) : Prop := match x with | y => ps_at z 4 134 [] [] y
def pX5_laysPlain_S12 (z : ps_X) (a1 : Int32) (s : Int32 × ps_S) : Prop := ps_at z 4 12 [(0, .ref (z_ad z 45)), (1, .int a1), (2, .int s.1)] [] s.2
def qX5_laysPlain_S12 (z : ps_X) (a1 : Int32) (x : (ps_S)) : Prop := match x with | y => ps_at z 4 48 [(0, .ref (z_ad z 45)), (1, .int a1)] [] y
def fX5_laysPlain_J41 (a1 : Int32) (a2 : Int32) (u0 : Int32) (u1 : Int32) (σ : ps_S) : Option ((Int32 × ps_S) ⊕ ((ps_S))) :=
  (ps_ck u1 2304 ((ps_let (ps_ui σ 56 (Int32.toNatClampNeg u1) u0) fun σ3 =>
  (ps_let (a2 + (1 : Int32)) fun x4 =>
  some (.inl (x4, σ3))))))
set_option maxHeartbeats 4000000 in
set_option maxRecDepth 100000 in
theorem tX5_laysPlain_J41 {z : ps_X} (C : ps_C z cX5_laysPlain 4 "PartSumsModel") (Z : ps_Z z 2 45) {a1 : Int32} {a2 : Int32} {u0 : Int32} {u1 : Int32} {σ : ps_S}  {r : (Int32 × ps_S) ⊕ ((ps_S))} (h : fX5_laysPlain_J41 a1 a2 u0 u1 σ = some r) (k : ps_k (pX5_laysPlain_S12 z a1) (qX5_laysPlain_S12 z a1) r) : ps_at z 4 41 [(0, .ref (z_ad z 45)), (1, .int a1), (2, .int a2)] [.int u0, .int u1, .ref (z_ad z 56)] σ := by
  unfold fX5_laysPlain_J41 at h
  obtain ⟨hi2, h⟩ := ps_ck_s h
  refine ps_iastL C (pc := 41) 56 rfl rfl hi2 dX5_laysPlain_41 h (fun σ3 h => ?_)
  refine ps_iincL C (pc := 42) (zz := 1) (lw := fun x4 => [(2, .int x4), (0, .ref (z_ad z 45)), (1, .int a1)]) dX5_laysPlain_42 2 rfl (by decide) (by decide) (fun _ => rfl) h (fun x4 h => ?_)
  refine ps_goto C (pc := 45) 12 dX5_laysPlain_45 (by decide) ?_
  obtain rfl := Option.some.inj h
  exact ps_sub [1, 2, 0] rfl k
def fX5_laysPlain_J40 (a1 : Int32) (a2 : Int32) (u0 : Int32) (σ : ps_S) : Option ((Int32 × ps_S) ⊕ ((ps_S))) :=
  fX5_laysPlain_J41 a1 a2 (0 : Int32) u0 σ
set_option maxHeartbeats 4000000 in
set_option maxRecDepth 100000 in
theorem tX5_laysPlain_J40 {z : ps_X} (C : ps_C z cX5_laysPlain 4 "PartSumsModel") (Z : ps_Z z 2 45) {a1 : Int32} {a2 : Int32} {u0 : Int32} {σ : ps_S}  {r : (Int32 × ps_S) ⊕ ((ps_S))} (h : fX5_laysPlain_J40 a1 a2 u0 σ = some r) (k : ps_k (pX5_laysPlain_S12 z a1) (qX5_laysPlain_S12 z a1) r) : ps_at z 4 40 [(0, .ref (z_ad z 45)), (1, .int a1), (2, .int a2)] [.int u0, .ref (z_ad z 56)] σ := by
  unfold fX5_laysPlain_J40 at h
  refine ps_iconst C (pc := 40) (v := 0) dX5_laysPlain_40 (by decide) ?_
  exact ps_sub [0, 1, 2] rfl (tX5_laysPlain_J41 C Z  h k)
def fX5_laysPlain_S12 (a1 : Int32) (a2 : Int32) (σ : ps_S) : Option ((Int32 × ps_S) ⊕ ((ps_S))) :=
  (if (8 : Int32) < a2 then some (.inr σ)
  else (if a1 = 0 then (if a2 = 0 then fX5_laysPlain_J41 a1 a2 (1 : Int32) (((9 : Int32) * a1) + a2) σ
  else fX5_laysPlain_J40 a1 a2 (((9 : Int32) * a1) + a2) σ)
  else fX5_laysPlain_J40 a1 a2 (((9 : Int32) * a1) + a2) σ))
set_option maxHeartbeats 4000000 in
set_option maxRecDepth 100000 in
theorem tX5_laysPlain_S12 {z : ps_X} (C : ps_C z cX5_laysPlain 4 "PartSumsModel") (Z : ps_Z z 2 45) (a1 : Int32)  (s : Int32 × ps_S) (r : (Int32 × ps_S) ⊕ ((ps_S))) (h : fX5_laysPlain_S12 a1 s.1 s.2 = some r) (k : ps_k (pX5_laysPlain_S12 z a1) (qX5_laysPlain_S12 z a1) r) : pX5_laysPlain_S12 z a1 s := by
  obtain ⟨a2, σ⟩ := s
  unfold fX5_laysPlain_S12 at h
  unfold pX5_laysPlain_S12
  refine ps_iload_n C (pc := 12) dX5_laysPlain_12 2 rfl ?_
  refine ps_bipush C (pc := 13) (v := 8) dX5_laysPlain_13 (by decide) ?_
  refine ps_icmp_gt C (pc := 15) 48 dX5_laysPlain_15 (by decide) (fun hc => ?_) (fun hc => ?_)
  · have h := ps_ift hc h
    obtain rfl := Option.some.inj h
    exact ps_sub [0, 1] rfl k
  · have h := ps_iff hc h
    refine ps_aload_n C (pc := 18) dX5_laysPlain_18 0 rfl ?_
    refine pg_45_20 C (pc := 19) tw_816 dX5_laysPlain_19 ?_
    refine ps_bipush C (pc := 22) (v := 9) dX5_laysPlain_22 (by decide) ?_
    refine ps_iload_n C (pc := 24) dX5_laysPlain_24 1 rfl ?_
    refine ps_imul C (pc := 25) dX5_laysPlain_25 ?_
    refine ps_iload_n C (pc := 26) dX5_laysPlain_26 2 rfl ?_
    refine ps_iadd C (pc := 27) dX5_laysPlain_27 ?_
    refine ps_iload_n C (pc := 28) dX5_laysPlain_28 1 rfl ?_
    refine ps_if_ne C (pc := 29) 40 dX5_laysPlain_29 (by decide) (fun hc => ?_) (fun hc => ?_)
    · have h := ps_iff hc h
      exact ps_sub [0, 1, 2] rfl (tX5_laysPlain_J40 C Z  h k)
    · have h := ps_ift hc h
      refine ps_iload_n C (pc := 32) dX5_laysPlain_32 2 rfl ?_
      refine ps_if_ne C (pc := 33) 40 dX5_laysPlain_33 (by decide) (fun hc => ?_) (fun hc => ?_)
      · have h := ps_iff hc h
        exact ps_sub [0, 1, 2] rfl (tX5_laysPlain_J40 C Z  h k)
      · have h := ps_ift hc h
        refine ps_iconst C (pc := 36) (v := 1) dX5_laysPlain_36 (by decide) ?_
        refine ps_goto C (pc := 37) 41 dX5_laysPlain_37 (by decide) ?_
        exact ps_sub [0, 1, 2] rfl (tX5_laysPlain_J41 C Z  h k)
def pX5_laysPlain_S50 (z : ps_X) (a1 : Int32) (s : Int32 × ps_S) : Prop := ps_at z 4 50 [(0, .ref (z_ad z 45)), (1, .int a1), (2, .int s.1)] [] s.2
def qX5_laysPlain_S50 (z : ps_X) (a1 : Int32) (x : (ps_S)) : Prop := match x with | y => ps_at z 4 128 [(0, .ref (z_ad z 45)), (1, .int a1)] [] y
def fX5_laysPlain_J119 (a1 : Int32) (a2 : Int32) (σ : ps_S) : Option ((Int32 × ps_S) ⊕ ((ps_S))) :=
  (ps_let ((a2 - (1 : Int32)) &&& a1) fun x6 =>
  some (.inl (x6, σ)))
set_option maxHeartbeats 4000000 in
set_option maxRecDepth 100000 in
theorem tX5_laysPlain_J119 {z : ps_X} (C : ps_C z cX5_laysPlain 4 "PartSumsModel") (Z : ps_Z z 2 45) {a1 : Int32} {a2 : Int32} {σ : ps_S}  {r : (Int32 × ps_S) ⊕ ((ps_S))} (h : fX5_laysPlain_J119 a1 a2 σ = some r) (k : ps_k (pX5_laysPlain_S50 z a1) (qX5_laysPlain_S50 z a1) r) : ps_at z 4 119 [(0, .ref (z_ad z 45)), (1, .int a1), (2, .int a2)] [] σ := by
  unfold fX5_laysPlain_J119 at h
  refine ps_iload_n C (pc := 119) dX5_laysPlain_119 2 rfl ?_
  refine ps_iconst C (pc := 120) (v := 1) dX5_laysPlain_120 (by decide) ?_
  refine ps_isub C (pc := 121) dX5_laysPlain_121 ?_
  refine ps_iload_n C (pc := 122) dX5_laysPlain_122 1 rfl ?_
  refine ps_iand C (pc := 123) dX5_laysPlain_123 ?_
  refine ps_istoreL_n C (pc := 124) (lw := fun x6 => [(2, .int x6), (0, .ref (z_ad z 45)), (1, .int a1)]) dX5_laysPlain_124 (by decide) (fun _ => rfl) h (fun x6 h => ?_)
  refine ps_goto C (pc := 125) 50 dX5_laysPlain_125 (by decide) ?_
  obtain rfl := Option.some.inj h
  exact ps_sub [1, 2, 0] rfl k
def pX5_laysPlain_S76 (z : ps_X) (a1 : Int32) (a2 : Int32) (s : Int32 × ps_S) : Prop := ps_at z 4 76 [(0, .ref (z_ad z 45)), (1, .int a1), (2, .int a2), (3, .int s.1)] [] s.2
def qX5_laysPlain_S76 (z : ps_X) (a1 : Int32) (a2 : Int32) (x : (ps_S)) : Prop := match x with | y => ps_at z 4 119 [(0, .ref (z_ad z 45)), (1, .int a1), (2, .int a2)] [] y
def fX5_laysPlain_S76 (a1 : Int32) (a2 : Int32) (a3 : Int32) (σ : ps_S) : Option ((Int32 × ps_S) ⊕ ((ps_S))) :=
  (if (8 : Int32) < a3 then some (.inr σ)
  else (ps_ck (((9 : Int32) * a1) + a3) 2304 ((ps_ck ((((9 : Int32) * (a1 &&& (a2 ^^^ (-1 : Int32)))) + a3) - (1 : Int32)) 2304 ((ps_ck (((9 : Int32) * a1) + a3) 2304 ((ps_let (ps_ui σ 56 (Int32.toNatClampNeg (((9 : Int32) * a1) + a3)) ((σ.1 56 (Int32.toNatClampNeg (((9 : Int32) * a1) + a3))) + (σ.1 56 (Int32.toNatClampNeg ((((9 : Int32) * (a1 &&& (a2 ^^^ (-1 : Int32)))) + a3) - (1 : Int32)))))) fun σ11 =>
  (ps_let (a3 + (1 : Int32)) fun x12 =>
  some (.inl (x12, σ11)))))))))))
set_option maxHeartbeats 4000000 in
set_option maxRecDepth 100000 in
theorem tX5_laysPlain_S76 {z : ps_X} (C : ps_C z cX5_laysPlain 4 "PartSumsModel") (Z : ps_Z z 2 45) (a1 : Int32) (a2 : Int32)  (s : Int32 × ps_S) (r : (Int32 × ps_S) ⊕ ((ps_S))) (h : fX5_laysPlain_S76 a1 a2 s.1 s.2 = some r) (k : ps_k (pX5_laysPlain_S76 z a1 a2) (qX5_laysPlain_S76 z a1 a2) r) : pX5_laysPlain_S76 z a1 a2 s := by
  obtain ⟨a3, σ⟩ := s
  unfold fX5_laysPlain_S76 at h
  unfold pX5_laysPlain_S76
  refine ps_iload_n C (pc := 76) dX5_laysPlain_76 3 rfl ?_
  refine ps_bipush C (pc := 77) (v := 8) dX5_laysPlain_77 (by decide) ?_
  refine ps_icmp_gt C (pc := 79) 119 dX5_laysPlain_79 (by decide) (fun hc => ?_) (fun hc => ?_)
  · have h := ps_ift hc h
    obtain rfl := Option.some.inj h
    exact ps_sub [0, 1, 2] rfl k
  · have h := ps_iff hc h
    refine ps_aload_n C (pc := 82) dX5_laysPlain_82 0 rfl ?_
    refine pg_45_20 C (pc := 83) tw_816 dX5_laysPlain_83 ?_
    refine ps_bipush C (pc := 86) (v := 9) dX5_laysPlain_86 (by decide) ?_
    refine ps_iload_n C (pc := 88) dX5_laysPlain_88 1 rfl ?_
    refine ps_imul C (pc := 89) dX5_laysPlain_89 ?_
    refine ps_iload_n C (pc := 90) dX5_laysPlain_90 3 rfl ?_
    refine ps_iadd C (pc := 91) dX5_laysPlain_91 ?_
    refine ps_dup2_11 C (pc := 92) dX5_laysPlain_92 rfl rfl ?_
    obtain ⟨hi8, h⟩ := ps_ck_s h
    refine ps_iald C (pc := 93) 56 rfl rfl hi8 dX5_laysPlain_93 ?_
    refine ps_aload_n C (pc := 94) dX5_laysPlain_94 0 rfl ?_
    refine pg_45_20 C (pc := 95) tw_816 dX5_laysPlain_95 ?_
    refine ps_bipush C (pc := 98) (v := 9) dX5_laysPlain_98 (by decide) ?_
    refine ps_iload_n C (pc := 100) dX5_laysPlain_100 1 rfl ?_
    refine ps_iload_n C (pc := 101) dX5_laysPlain_101 2 rfl ?_
    refine ps_iconst C (pc := 102) (v := -1) dX5_laysPlain_102 (by decide) ?_
    refine ps_ixor C (pc := 103) dX5_laysPlain_103 ?_
    refine ps_iand C (pc := 104) dX5_laysPlain_104 ?_
    refine ps_imul C (pc := 105) dX5_laysPlain_105 ?_
    refine ps_iload_n C (pc := 106) dX5_laysPlain_106 3 rfl ?_
    refine ps_iadd C (pc := 107) dX5_laysPlain_107 ?_
    refine ps_iconst C (pc := 108) (v := 1) dX5_laysPlain_108 (by decide) ?_
    refine ps_isub C (pc := 109) dX5_laysPlain_109 ?_
    obtain ⟨hi9, h⟩ := ps_ck_s h
    refine ps_iald C (pc := 110) 56 rfl rfl hi9 dX5_laysPlain_110 ?_
    refine ps_iadd C (pc := 111) dX5_laysPlain_111 ?_
    obtain ⟨hi10, h⟩ := ps_ck_s h
    refine ps_iastL C (pc := 112) 56 rfl rfl hi10 dX5_laysPlain_112 h (fun σ11 h => ?_)
    refine ps_iincL C (pc := 113) (zz := 1) (lw := fun x12 => [(3, .int x12), (0, .ref (z_ad z 45)), (1, .int a1), (2, .int a2)]) dX5_laysPlain_113 3 rfl (by decide) (by decide) (fun _ => rfl) h (fun x12 h => ?_)
    refine ps_goto C (pc := 116) 76 dX5_laysPlain_116 (by decide) ?_
    obtain rfl := Option.some.inj h
    exact ps_sub [1, 2, 3, 0] rfl k
def fX5_laysPlain_S50 (a1 : Int32) (a2 : Int32) (σ : ps_S) : Option ((Int32 × ps_S) ⊕ ((ps_S))) :=
  (if a2 ≤ 0 then some (.inr σ)
  else (if ((a2 &&& a1) &&& (-a1)) = 0 then fX5_laysPlain_J119 a1 a2 σ
  else ((fX5_pairsIn a2 σ).bind fun q7 =>
  (if q7 ≤ 0 then ((ps_lp (fun s => fX5_laysPlain_S76 a1 a2 s.1 s.2) 100000 ((1 : Int32), σ)).bind fun e13 =>
  fX5_laysPlain_J119 a1 a2 e13)
  else fX5_laysPlain_J119 a1 a2 σ))))
set_option maxHeartbeats 4000000 in
set_option maxRecDepth 100000 in
theorem tX5_laysPlain_S50 {z : ps_X} (C : ps_C z cX5_laysPlain 4 "PartSumsModel") (Z : ps_Z z 2 45) (a1 : Int32)  (s : Int32 × ps_S) (r : (Int32 × ps_S) ⊕ ((ps_S))) (h : fX5_laysPlain_S50 a1 s.1 s.2 = some r) (k : ps_k (pX5_laysPlain_S50 z a1) (qX5_laysPlain_S50 z a1) r) : pX5_laysPlain_S50 z a1 s := by
  obtain ⟨a2, σ⟩ := s
  unfold fX5_laysPlain_S50 at h
  unfold pX5_laysPlain_S50
  refine ps_iload_n C (pc := 50) dX5_laysPlain_50 2 rfl ?_
  refine ps_if_le C (pc := 51) 128 dX5_laysPlain_51 (by decide) (fun hc => ?_) (fun hc => ?_)
  · have h := ps_ift hc h
    obtain rfl := Option.some.inj h
    exact ps_sub [0, 1] rfl k
  · have h := ps_iff hc h
    refine ps_iload_n C (pc := 54) dX5_laysPlain_54 2 rfl ?_
    refine ps_iload_n C (pc := 55) dX5_laysPlain_55 1 rfl ?_
    refine ps_iand C (pc := 56) dX5_laysPlain_56 ?_
    refine ps_iload_n C (pc := 57) dX5_laysPlain_57 1 rfl ?_
    refine ps_ineg C (pc := 58) dX5_laysPlain_58 ?_
    refine ps_iand C (pc := 59) dX5_laysPlain_59 ?_
    refine ps_if_eq C (pc := 60) 119 dX5_laysPlain_60 (by decide) (fun hc => ?_) (fun hc => ?_)
    · have h := ps_ift hc h
      exact ps_sub [0, 1, 2] rfl (tX5_laysPlain_J119 C Z  h k)
    · have h := ps_iff hc h
      refine ps_aload_n C (pc := 63) dX5_laysPlain_63 0 rfl ?_
      refine ps_iload_n C (pc := 64) dX5_laysPlain_64 2 rfl ?_
      obtain ⟨q7, hq7, h⟩ := ps_bd h
      refine ps_callVI C Z (pc := 65) (As := [.int a2]) (k0 := 45) (mX5_pairsIn  hq7) (Cn := "PartSumsModel") rfl tw_958 tw_960 tw_39 tw_70 tw_961 hdX5_pairsIn rfl rfl ⟨by decide, by decide⟩ (by decide) ps_o45 rfl rfl (Nat.le_of_ble_eq_true rfl) dX5_laysPlain_65 rfl ?_
      refine ps_if_le C (pc := 68) 74 dX5_laysPlain_68 (by decide) (fun hc => ?_) (fun hc => ?_)
      · have h := ps_ift hc h
        refine ps_iconst C (pc := 74) (v := 1) dX5_laysPlain_74 (by decide) ?_
        refine ps_istore_n C (pc := 75) (lv' := [(3, .int (1 : Int32)), (0, .ref (z_ad z 45)), (1, .int a1), (2, .int a2)]) dX5_laysPlain_75 (by decide) rfl ?_
        obtain ⟨e13, he13, h⟩ := ps_bd h
        refine ps_sub [1, 2, 3, 0] rfl ?_
        refine ps_loop (P := pX5_laysPlain_S76 z a1 a2) (K := qX5_laysPlain_S76 z a1 a2) (fun s r h k => tX5_laysPlain_S76 C Z a1 a2  s r h k) _ _ _ he13 ?_
        unfold qX5_laysPlain_S76
        exact ps_sub [0, 1, 2] rfl (tX5_laysPlain_J119 C Z  h k)
      · have h := ps_iff hc h
        refine ps_goto C (pc := 71) 119 dX5_laysPlain_71 (by decide) ?_
        exact ps_sub [0, 1, 2] rfl (tX5_laysPlain_J119 C Z  h k)
def fX5_laysPlain_S2  (a1 : Int32) (σ : ps_S) : Option ((Int32 × ps_S) ⊕ ((ps_S))) :=
  ((fX5_all σ).bind fun q1 =>
  (if q1 < a1 then some (.inr σ)
  else ((ps_lp (fun s => fX5_laysPlain_S12 a1 s.1 s.2) 100000 ((0 : Int32), σ)).bind fun e5 =>
  ((ps_lp (fun s => fX5_laysPlain_S50 a1 s.1 s.2) 100000 (a1, e5)).bind fun e14 =>
  (ps_let (a1 + (1 : Int32)) fun x15 =>
  some (.inl (x15, e14)))))))
set_option maxHeartbeats 4000000 in
set_option maxRecDepth 100000 in
theorem tX5_laysPlain_S2 {z : ps_X} (C : ps_C z cX5_laysPlain 4 "PartSumsModel") (Z : ps_Z z 2 45)   (s : Int32 × ps_S) (r : (Int32 × ps_S) ⊕ ((ps_S))) (h : fX5_laysPlain_S2  s.1 s.2 = some r) (k : ps_k (pX5_laysPlain_S2 z ) (qX5_laysPlain_S2 z ) r) : pX5_laysPlain_S2 z  s := by
  obtain ⟨a1, σ⟩ := s
  unfold fX5_laysPlain_S2 at h
  unfold pX5_laysPlain_S2
  refine ps_iload_n C (pc := 2) dX5_laysPlain_2 1 rfl ?_
  refine ps_aload_n C (pc := 3) dX5_laysPlain_3 0 rfl ?_
  obtain ⟨q1, hq1, h⟩ := ps_bd h
  refine ps_callVI C Z (pc := 4) (As := []) (k0 := 45) (mX5_all  hq1) (Cn := "PartSumsModel") rfl tw_954 tw_956 tw_38 tw_70 tw_957 hdX5_all rfl rfl ⟨by decide, by decide⟩ (by decide) ps_o45 rfl rfl (Nat.le_of_ble_eq_true rfl) dX5_laysPlain_4 rfl ?_
  refine ps_icmp_gt C (pc := 7) 134 dX5_laysPlain_7 (by decide) (fun hc => ?_) (fun hc => ?_)
  · have h := ps_ift hc h
    obtain rfl := Option.some.inj h
    exact ps_sub [] rfl k
  · have h := ps_iff hc h
    refine ps_iconst C (pc := 10) (v := 0) dX5_laysPlain_10 (by decide) ?_
    refine ps_istore_n C (pc := 11) (lv' := [(2, .int (0 : Int32)), (0, .ref (z_ad z 45)), (1, .int a1)]) dX5_laysPlain_11 (by decide) rfl ?_
    obtain ⟨e5, he5, h⟩ := ps_bd h
    refine ps_sub [1, 2, 0] rfl ?_
    refine ps_loop (P := pX5_laysPlain_S12 z a1) (K := qX5_laysPlain_S12 z a1) (fun s r h k => tX5_laysPlain_S12 C Z a1  s r h k) _ _ _ he5 ?_
    unfold qX5_laysPlain_S12
    refine ps_iload_n C (pc := 48) dX5_laysPlain_48 1 rfl ?_
    refine ps_istore_n C (pc := 49) (lv' := [(2, .int a1), (0, .ref (z_ad z 45)), (1, .int a1)]) dX5_laysPlain_49 (by decide) rfl ?_
    obtain ⟨e14, he14, h⟩ := ps_bd h
    refine ps_sub [1, 2, 0] rfl ?_
    refine ps_loop (P := pX5_laysPlain_S50 z a1) (K := qX5_laysPlain_S50 z a1) (fun s r h k => tX5_laysPlain_S50 C Z a1  s r h k) _ _ _ he14 ?_
    unfold qX5_laysPlain_S50
    refine ps_iincL C (pc := 128) (zz := 1) (lw := fun x15 => [(1, .int x15), (0, .ref (z_ad z 45))]) dX5_laysPlain_128 1 rfl (by decide) (by decide) (fun _ => rfl) h (fun x15 h => ?_)
    refine ps_goto C (pc := 131) 2 dX5_laysPlain_131 (by decide) ?_
    obtain rfl := Option.some.inj h
    exact ps_sub [1, 0] rfl k
def fX5_laysPlain (σ : ps_S) : Option (ps_S) :=
  ((ps_lp (fun s => fX5_laysPlain_S2  s.1 s.2) 100000 ((0 : Int32), σ)).bind fun e16 =>
  some e16)
set_option maxHeartbeats 4000000 in
set_option maxRecDepth 100000 in
theorem tX5_laysPlain {z : ps_X} (C : ps_C z cX5_laysPlain 4 "PartSumsModel") (Z : ps_Z z 2 45) {σ : ps_S}  {r : ps_S} (h : fX5_laysPlain σ = some r) (k : ps_KV z 4 cX5_laysPlain r) : ps_at z 4 0 [(0, .ref (z_ad z 45))] [] σ := by
  unfold fX5_laysPlain at h
  refine ps_iconst C (pc := 0) (v := 0) dX5_laysPlain_0 (by decide) ?_
  refine ps_istore_n C (pc := 1) (lv' := [(1, .int (0 : Int32)), (0, .ref (z_ad z 45))]) dX5_laysPlain_1 (by decide) rfl ?_
  obtain ⟨e16, he16, h⟩ := ps_bd h
  refine ps_sub [1, 0] rfl ?_
  refine ps_loop (P := pX5_laysPlain_S2 z ) (K := qX5_laysPlain_S2 z ) (fun s r h k => tX5_laysPlain_S2 C Z   s r h k) _ _ _ he16 ?_
  unfold qX5_laysPlain_S2
  obtain rfl := Option.some.inj h
  exact k _ _ dX5_laysPlain_134
def rmX5_laysPlain : Room := { frames := 2, cells := 0, slots := 0, locals := 45 }
theorem mX5_laysPlain {l : Launch} {E : ps_E} {σ : ps_S}  {r : ps_S}  (h : fX5_laysPlain σ = some r) : ps_MV l yX5_laysPlain (ps_wm yX5_laysPlain cX5_laysPlain 4 none) rmX5_laysPlain [.ref (e_ad E 45)] E σ r :=
  ps_metV yX5_laysPlain rmX5_laysPlain 4 (own := "PartSumsModel")  (by decide +kernel) rfl (Nat.le_of_ble_eq_true rfl) rfl (fun z e1 e2 e3 e4 e5 C k => by
    subst e5
    exact tX5_laysPlain C (ps_Zof e1 e3 e4)  h k)
theorem hdX5_laysPlain : yX5_laysPlain.cls ≠ "java/lang/invoke/MethodHandle" ∧ yX5_laysPlain.cls ≠ "java/lang/invoke/VarHandle" ∧ (parseMethodDescriptor yX5_laysPlain.desc).map (fun d => d.parameters.length) = some 0 := by decide +kernel
def pX5_fewest_S6 (z : ps_X) (a1 : Int32) (σ : ps_S) (s : Int32) : Prop := ps_at z 3 6 [(0, .ref (z_ad z 45)), (1, .int a1), (2, .int s)] [] σ
def qX5_fewest_S6 (z : ps_X) (a1 : Int32) (σ : ps_S) (x : (Int32)) : Prop := match x with | y => ps_at z 3 26 [(2, .int y)] [] σ
def fX5_fewest_S6 (a1 : Int32) (σ : ps_S) (a2 : Int32) : Option ((Int32) ⊕ ((Int32))) :=
  (ps_ck (((9 : Int32) * a1) + a2) 2304 ((if (σ.1 56 (Int32.toNatClampNeg (((9 : Int32) * a1) + a2))) = 0 then (ps_let (a2 + (1 : Int32)) fun x3 =>
  some (.inl x3))
  else some (.inr a2))))
set_option maxHeartbeats 4000000 in
set_option maxRecDepth 100000 in
theorem tX5_fewest_S6 {z : ps_X} (C : ps_C z cX5_fewest 3 "PartSumsModel") (Z : ps_Z z 3 68) (a1 : Int32) (σ : ps_S)  (s : Int32) (r : (Int32) ⊕ ((Int32))) (h : fX5_fewest_S6 a1 σ s = some r) (k : ps_k (pX5_fewest_S6 z a1 σ) (qX5_fewest_S6 z a1 σ) r) : pX5_fewest_S6 z a1 σ s := by
  generalize s = a2 at h ⊢
  unfold fX5_fewest_S6 at h
  unfold pX5_fewest_S6
  refine ps_aload_n C (pc := 6) dX5_fewest_6 0 rfl ?_
  refine pg_45_20 C (pc := 7) tw_816 dX5_fewest_7 ?_
  refine ps_bipush C (pc := 10) (v := 9) dX5_fewest_10 (by decide) ?_
  refine ps_iload_n C (pc := 12) dX5_fewest_12 1 rfl ?_
  refine ps_imul C (pc := 13) dX5_fewest_13 ?_
  refine ps_iload_n C (pc := 14) dX5_fewest_14 2 rfl ?_
  refine ps_iadd C (pc := 15) dX5_fewest_15 ?_
  obtain ⟨hi2, h⟩ := ps_ck_s h
  refine ps_iald C (pc := 16) 56 rfl rfl hi2 dX5_fewest_16 ?_
  refine ps_if_ne C (pc := 17) 26 dX5_fewest_17 (by decide) (fun hc => ?_) (fun hc => ?_)
  · have h := ps_iff hc h
    obtain rfl := Option.some.inj h
    exact ps_sub [2] rfl k
  · have h := ps_ift hc h
    refine ps_iincL C (pc := 20) (zz := 1) (lw := fun x3 => [(2, .int x3), (0, .ref (z_ad z 45)), (1, .int a1)]) dX5_fewest_20 2 rfl (by decide) (by decide) (fun _ => rfl) h (fun x3 h => ?_)
    refine ps_goto C (pc := 23) 6 dX5_fewest_23 (by decide) ?_
    obtain rfl := Option.some.inj h
    exact ps_sub [1, 2, 0] rfl k
def fX5_fewest (a1 : Int32) (σ : ps_S) : Option (Int32 × ps_S) :=
  ((fX5_laysPlain σ).bind fun q1 =>
  ((ps_lp (fun s => fX5_fewest_S6 a1 q1 s) 100000 (0 : Int32)).bind fun e4 =>
  some (e4, q1)))
set_option maxHeartbeats 4000000 in
set_option maxRecDepth 100000 in
theorem tX5_fewest {z : ps_X} (C : ps_C z cX5_fewest 3 "PartSumsModel") (Z : ps_Z z 3 68) {a1 : Int32} {σ : ps_S}  {r : Int32 × ps_S} (h : fX5_fewest a1 σ = some r) (k : ps_KI z 3 cX5_fewest r.1 r.2) : ps_at z 3 0 [(0, .ref (z_ad z 45)), (1, .int a1)] [] σ := by
  unfold fX5_fewest at h
  refine ps_aload_n C (pc := 0) dX5_fewest_0 0 rfl ?_
  obtain ⟨q1, hq1, h⟩ := ps_bd h
  refine ps_callVV C Z (pc := 1) (As := []) (k0 := 45) (mX5_laysPlain  hq1) (Cn := "PartSumsModel") rfl tw_1118 tw_1120 tw_59 tw_70 tw_1121 hdX5_laysPlain rfl rfl ⟨by decide, by decide⟩ (by decide) ps_o45 rfl rfl (Nat.le_of_ble_eq_true rfl) dX5_fewest_1 rfl ?_
  refine ps_iconst C (pc := 4) (v := 0) dX5_fewest_4 (by decide) ?_
  refine ps_istore_n C (pc := 5) (lv' := [(2, .int (0 : Int32)), (0, .ref (z_ad z 45)), (1, .int a1)]) dX5_fewest_5 (by decide) rfl ?_
  obtain ⟨e4, he4, h⟩ := ps_bd h
  refine ps_sub [1, 2, 0] rfl ?_
  refine ps_loop (P := pX5_fewest_S6 z a1 q1) (K := qX5_fewest_S6 z a1 q1) (fun s r h k => tX5_fewest_S6 C Z a1 q1  s r h k) _ _ _ he4 ?_
  unfold qX5_fewest_S6
  refine ps_iload_n C (pc := 26) dX5_fewest_26 0 rfl ?_
  obtain rfl := Option.some.inj h
  exact k _ _ dX5_fewest_27
def rmX5_fewest : Room := { frames := 3, cells := 0, slots := 0, locals := 68 }
theorem mX5_fewest {l : Launch} {E : ps_E} {σ : ps_S} {a1 : Int32} {r : Int32 × ps_S}  (h : fX5_fewest a1 σ = some r) : ps_MI l yX5_fewest (ps_wm yX5_fewest cX5_fewest 3 (some .int)) rmX5_fewest [.ref (e_ad E 45), .int a1] E σ r.1 r.2 :=
  ps_metI yX5_fewest rmX5_fewest 3 (own := "PartSumsModel") r.1 (by decide +kernel) rfl (Nat.le_of_ble_eq_true rfl) rfl (fun z e1 e2 e3 e4 e5 C k => by
    subst e5
    exact tX5_fewest C (ps_Zof e1 e3 e4)  h k)
theorem hdX5_fewest : yX5_fewest.cls ≠ "java/lang/invoke/MethodHandle" ∧ yX5_fewest.cls ≠ "java/lang/invoke/VarHandle" ∧ (parseMethodDescriptor yX5_fewest.desc).map (fun d => d.parameters.length) = some 1 := by decide +kernel
def fX5_colours (a1 : Int32) (σ : ps_S) : Option (Int32 × ps_S) :=
  (ps_let (ps_ui σ 45 0 (0 : Int32)) fun σ1 =>
  ((fX5_isSet a1 σ1).bind fun q2 =>
  (if q2 = 0 then some ((-1 : Int32), σ1)
  else ((fX5_fewest a1 σ1).bind fun q3 =>
  some (q3.1, q3.2)))))
set_option maxHeartbeats 4000000 in
set_option maxRecDepth 100000 in
theorem tX5_colours {z : ps_X} (C : ps_C z cX5_colours 2 "PartSumsModel") (Z : ps_Z z 4 90) {a1 : Int32} {σ : ps_S}  {r : Int32 × ps_S} (h : fX5_colours a1 σ = some r) (k : ps_KI z 2 cX5_colours r.1 r.2) : ps_at z 2 0 [(0, .ref (z_ad z 45)), (1, .int a1)] [] σ := by
  unfold fX5_colours at h
  refine ps_aload_n C (pc := 0) dX5_colours_0 0 rfl ?_
  refine ps_iconst C (pc := 1) (v := 0) dX5_colours_1 (by decide) ?_
  refine pp_45_0 C (pc := 2) tw_796 dX5_colours_2 h (fun σ1 h => ?_)
  refine ps_aload_n C (pc := 5) dX5_colours_5 0 rfl ?_
  refine ps_iload_n C (pc := 6) dX5_colours_6 1 rfl ?_
  obtain ⟨q2, hq2, h⟩ := ps_bd h
  refine ps_callVI C Z (pc := 7) (As := [.int a1]) (k0 := 45) (mX5_isSet  hq2) (Cn := "PartSumsModel") rfl tw_966 tw_968 tw_40 tw_70 tw_969 hdX5_isSet rfl rfl ⟨by decide, by decide⟩ (by decide) ps_o45 rfl rfl (Nat.le_of_ble_eq_true rfl) dX5_colours_7 rfl ?_
  refine ps_if_eq C (pc := 10) 21 dX5_colours_10 (by decide) (fun hc => ?_) (fun hc => ?_)
  · have h := ps_ift hc h
    refine ps_iconst C (pc := 21) (v := -1) dX5_colours_21 (by decide) ?_
    obtain rfl := Option.some.inj h
    exact k _ _ dX5_colours_22
  · have h := ps_iff hc h
    refine ps_aload_n C (pc := 13) dX5_colours_13 0 rfl ?_
    refine ps_iload_n C (pc := 14) dX5_colours_14 1 rfl ?_
    obtain ⟨q3, hq3, h⟩ := ps_bd h
    refine ps_callVI C Z (pc := 15) (As := [.int a1]) (k0 := 45) (mX5_fewest  hq3) (Cn := "PartSumsModel") rfl tw_1114 tw_1116 tw_58 tw_70 tw_1117 hdX5_fewest rfl rfl ⟨by decide, by decide⟩ (by decide) ps_o45 rfl rfl (Nat.le_of_ble_eq_true rfl) dX5_colours_15 rfl ?_
    refine ps_goto C (pc := 18) 22 dX5_colours_18 (by decide) ?_
    obtain rfl := Option.some.inj h
    exact k _ _ dX5_colours_22
def rmX5_colours : Room := { frames := 4, cells := 0, slots := 0, locals := 90 }
theorem mX5_colours {l : Launch} {E : ps_E} {σ : ps_S} {a1 : Int32} {r : Int32 × ps_S}  (h : fX5_colours a1 σ = some r) : ps_MI l yX5_colours (ps_wm yX5_colours cX5_colours 2 (some .int)) rmX5_colours [.ref (e_ad E 45), .int a1] E σ r.1 r.2 :=
  ps_metI yX5_colours rmX5_colours 2 (own := "PartSumsModel") r.1 (by decide +kernel) rfl (Nat.le_of_ble_eq_true rfl) rfl (fun z e1 e2 e3 e4 e5 C k => by
    subst e5
    exact tX5_colours C (ps_Zof e1 e3 e4)  h k)
theorem hdX5_colours : yX5_colours.cls ≠ "java/lang/invoke/MethodHandle" ∧ yX5_colours.cls ≠ "java/lang/invoke/VarHandle" ∧ (parseMethodDescriptor yX5_colours.desc).map (fun d => d.parameters.length) = some 1 := by decide +kernel
def pX5_paints_S31 (z : ps_X) (a1 : Int32) (a2 : Int32) (a3 : Int32) (s : Int32 × ps_S) : Prop := ps_at z 7 31 [(0, .ref (z_ad z 45)), (1, .int a1), (2, .int a2), (3, .int a3), (4, .int s.1)] [] s.2
def qX5_paints_S31 (z : ps_X) (a1 : Int32) (a2 : Int32) (a3 : Int32) (x : (ps_S) ⊕ (ps_S)) : Prop := match x with | .inl y => ps_at z 7 115 [] [] y | .inr y => ps_at z 7 123 [] [] y
def pX5_paints_S43 (z : ps_X) (a1 : Int32) (a2 : Int32) (a3 : Int32) (a4 : Int32) (σ : ps_S) (s : Int32 × Int32) : Prop := ps_at z 7 43 [(0, .ref (z_ad z 45)), (1, .int a1), (2, .int a2), (3, .int a3), (4, .int a4), (5, .int s.1), (6, .int s.2)] [] σ
def qX5_paints_S43 (z : ps_X) (a1 : Int32) (a2 : Int32) (a3 : Int32) (a4 : Int32) (σ : ps_S) (x : (Int32)) : Prop := match x with | y => ps_at z 7 90 [(0, .ref (z_ad z 45)), (1, .int a1), (2, .int a2), (3, .int a3), (4, .int a4), (5, .int y)] [] σ
def fX5_paints_J84 (rec : Int32 → Int32 → Int32 → ps_S → Option (Int32 × ps_S)) (a1 : Int32) (a2 : Int32) (a3 : Int32) (a4 : Int32) (a5 : Int32) (a6 : Int32) (σ : ps_S) : Option ((Int32 × Int32) ⊕ ((Int32))) :=
  (ps_let (a6 + (1 : Int32)) fun x5 =>
  some (.inl (a5, x5)))
set_option maxHeartbeats 4000000 in
set_option maxRecDepth 100000 in
theorem tX5_paints_J84 {z : ps_X} (C : ps_C z cX5_paints 7 "PartSumsModel") {f9 n9 : Nat} (Z : ps_Z z f9 n9) (hzz : 1 ≤ f9 ∧ 60 ≤ n9) {rec : Int32 → Int32 → Int32 → ps_S → Option (Int32 × ps_S)} {rmr : Room} (hrr : rmr.cells = 0 ∧ rmr.slots = 0 ∧ rmr.frames + 1 ≤ f9 ∧ 8 + (7 + 11) + rmr.locals ≤ n9) (hrec : ∀ {a1 : Int32} {a2 : Int32} {a3 : Int32} {σ : ps_S} {r : Int32 × ps_S}, rec a1 a2 a3 σ = some r → ps_MI (z_l z) yX5_paints (ps_wm yX5_paints cX5_paints 7 (some .boolean)) rmr [.ref (z_ad z 45), .int a1, .int a2, .int a3] (z_E z) σ r.1 r.2) {a1 : Int32} {a2 : Int32} {a3 : Int32} {a4 : Int32} {a5 : Int32} {a6 : Int32} {σ : ps_S}  {r : (Int32 × Int32) ⊕ ((Int32))} (h : fX5_paints_J84 rec a1 a2 a3 a4 a5 a6 σ = some r) (k : ps_k (pX5_paints_S43 z a1 a2 a3 a4 σ) (qX5_paints_S43 z a1 a2 a3 a4 σ) r) : ps_at z 7 84 [(0, .ref (z_ad z 45)), (1, .int a1), (2, .int a2), (3, .int a3), (4, .int a4), (5, .int a5), (6, .int a6)] [] σ := by
  unfold fX5_paints_J84 at h
  refine ps_iincL C (pc := 84) (zz := 1) (lw := fun x5 => [(6, .int x5), (0, .ref (z_ad z 45)), (1, .int a1), (2, .int a2), (3, .int a3), (4, .int a4), (5, .int a5)]) dX5_paints_84 6 rfl (by decide) (by decide) (fun _ => rfl) h (fun x5 h => ?_)
  refine ps_goto C (pc := 87) 43 dX5_paints_87 (by decide) ?_
  obtain rfl := Option.some.inj h
  exact ps_sub [1, 2, 3, 4, 5, 6, 0] rfl k
def fX5_paints_S43 (rec : Int32 → Int32 → Int32 → ps_S → Option (Int32 × ps_S)) (a1 : Int32) (a2 : Int32) (a3 : Int32) (a4 : Int32) (σ : ps_S) (a5 : Int32) (a6 : Int32) : Option ((Int32 × Int32) ⊕ ((Int32))) :=
  (if a2 ≤ a6 then some (.inr a5)
  else (ps_ck ((257 : Int32) + a2) 1289 (((fX5_has (a1 &&& (σ.1 47 (Int32.toNatClampNeg ((257 : Int32) + a2)))) a6).bind fun q4 =>
  (if q4 = 0 then fX5_paints_J84 rec a1 a2 a3 a4 a5 a6 σ
  else (ps_ck a6 8 ((if (σ.1 57 (Int32.toNatClampNeg a6)) = a4 then fX5_paints_J84 rec a1 a2 a3 a4 (0 : Int32) a6 σ
  else fX5_paints_J84 rec a1 a2 a3 a4 a5 a6 σ))))))))
set_option maxHeartbeats 4000000 in
set_option maxRecDepth 100000 in
theorem tX5_paints_S43 {z : ps_X} (C : ps_C z cX5_paints 7 "PartSumsModel") {f9 n9 : Nat} (Z : ps_Z z f9 n9) (hzz : 1 ≤ f9 ∧ 60 ≤ n9) {rec : Int32 → Int32 → Int32 → ps_S → Option (Int32 × ps_S)} {rmr : Room} (hrr : rmr.cells = 0 ∧ rmr.slots = 0 ∧ rmr.frames + 1 ≤ f9 ∧ 8 + (7 + 11) + rmr.locals ≤ n9) (hrec : ∀ {a1 : Int32} {a2 : Int32} {a3 : Int32} {σ : ps_S} {r : Int32 × ps_S}, rec a1 a2 a3 σ = some r → ps_MI (z_l z) yX5_paints (ps_wm yX5_paints cX5_paints 7 (some .boolean)) rmr [.ref (z_ad z 45), .int a1, .int a2, .int a3] (z_E z) σ r.1 r.2) (a1 : Int32) (a2 : Int32) (a3 : Int32) (a4 : Int32) (σ : ps_S)  (s : Int32 × Int32) (r : (Int32 × Int32) ⊕ ((Int32))) (h : fX5_paints_S43 rec a1 a2 a3 a4 σ s.1 s.2 = some r) (k : ps_k (pX5_paints_S43 z a1 a2 a3 a4 σ) (qX5_paints_S43 z a1 a2 a3 a4 σ) r) : pX5_paints_S43 z a1 a2 a3 a4 σ s := by
  obtain ⟨a5, a6⟩ := s
  unfold fX5_paints_S43 at h
  unfold pX5_paints_S43
  refine ps_iload C (pc := 43) dX5_paints_43 6 rfl ?_
  refine ps_iload_n C (pc := 45) dX5_paints_45 2 rfl ?_
  refine ps_icmp_ge C (pc := 46) 90 dX5_paints_46 (by decide) (fun hc => ?_) (fun hc => ?_)
  · have h := ps_ift hc h
    obtain rfl := Option.some.inj h
    exact ps_sub [0, 1, 2, 3, 4, 5] rfl k
  · have h := ps_iff hc h
    refine ps_iload_n C (pc := 49) dX5_paints_49 1 rfl ?_
    refine ps_aload_n C (pc := 50) dX5_paints_50 0 rfl ?_
    refine pg_45_10 C (pc := 51) tw_806 dX5_paints_51 ?_
    refine ps_sipush C (pc := 54) (v := 257) dX5_paints_54 (by decide) ?_
    refine ps_iload_n C (pc := 57) dX5_paints_57 2 rfl ?_
    refine ps_iadd C (pc := 58) dX5_paints_58 ?_
    obtain ⟨hi3, h⟩ := ps_ck_s h
    refine ps_iald C (pc := 59) 47 rfl rfl hi3 dX5_paints_59 ?_
    refine ps_iand C (pc := 60) dX5_paints_60 ?_
    refine ps_iload C (pc := 61) dX5_paints_61 6 rfl ?_
    obtain ⟨q4, hq4, h⟩ := ps_bd h
    refine ps_callSI C Z (pc := 63) (As := [.int (a1 &&& (σ.1 47 (Int32.toNatClampNeg ((257 : Int32) + a2)))), .int a6]) (mX5_has  hq4) tw_915 tw_916 tw_70 tw_917 hdX5_has rfl rfl ⟨Nat.le_trans (by decide) hzz.1, Nat.le_trans (by decide) hzz.2⟩ rfl (Nat.le_of_ble_eq_true rfl) dX5_paints_63 rfl ?_
    refine ps_if_eq C (pc := 66) 84 dX5_paints_66 (by decide) (fun hc => ?_) (fun hc => ?_)
    · have h := ps_ift hc h
      exact ps_sub [0, 1, 2, 3, 4, 5, 6] rfl (tX5_paints_J84 C Z hzz hrr hrec  h k)
    · have h := ps_iff hc h
      refine ps_aload_n C (pc := 69) dX5_paints_69 0 rfl ?_
      refine pg_45_21 C (pc := 70) tw_817 dX5_paints_70 ?_
      refine ps_iload C (pc := 73) dX5_paints_73 6 rfl ?_
      obtain ⟨hi6, h⟩ := ps_ck_s h
      refine ps_iald C (pc := 75) 57 rfl rfl hi6 dX5_paints_75 ?_
      refine ps_iload C (pc := 76) dX5_paints_76 4 rfl ?_
      refine ps_icmp_ne C (pc := 78) 84 dX5_paints_78 (by decide) (fun hc => ?_) (fun hc => ?_)
      · have h := ps_iff hc h
        exact ps_sub [0, 1, 2, 3, 4, 5, 6] rfl (tX5_paints_J84 C Z hzz hrr hrec  h k)
      · have h := ps_ift hc h
        refine ps_iconst C (pc := 81) (v := 0) dX5_paints_81 (by decide) ?_
        refine ps_istore C (pc := 82) (lv' := [(5, .int (0 : Int32)), (0, .ref (z_ad z 45)), (1, .int a1), (2, .int a2), (3, .int a3), (4, .int a4), (6, .int a6)]) dX5_paints_82 (by decide) rfl ?_
        exact ps_sub [1, 2, 3, 4, 5, 0, 6] rfl (tX5_paints_J84 C Z hzz hrr hrec  h k)
def fX5_paints_J117 (rec : Int32 → Int32 → Int32 → ps_S → Option (Int32 × ps_S)) (a1 : Int32) (a2 : Int32) (a3 : Int32) (a4 : Int32) (σ : ps_S) : Option ((Int32 × ps_S) ⊕ ((ps_S) ⊕ (ps_S))) :=
  (ps_let (a4 + (1 : Int32)) fun x10 =>
  some (.inl (x10, σ)))
set_option maxHeartbeats 4000000 in
set_option maxRecDepth 100000 in
theorem tX5_paints_J117 {z : ps_X} (C : ps_C z cX5_paints 7 "PartSumsModel") {f9 n9 : Nat} (Z : ps_Z z f9 n9) (hzz : 1 ≤ f9 ∧ 60 ≤ n9) {rec : Int32 → Int32 → Int32 → ps_S → Option (Int32 × ps_S)} {rmr : Room} (hrr : rmr.cells = 0 ∧ rmr.slots = 0 ∧ rmr.frames + 1 ≤ f9 ∧ 8 + (7 + 11) + rmr.locals ≤ n9) (hrec : ∀ {a1 : Int32} {a2 : Int32} {a3 : Int32} {σ : ps_S} {r : Int32 × ps_S}, rec a1 a2 a3 σ = some r → ps_MI (z_l z) yX5_paints (ps_wm yX5_paints cX5_paints 7 (some .boolean)) rmr [.ref (z_ad z 45), .int a1, .int a2, .int a3] (z_E z) σ r.1 r.2) {a1 : Int32} {a2 : Int32} {a3 : Int32} {a4 : Int32} {σ : ps_S}  {r : (Int32 × ps_S) ⊕ ((ps_S) ⊕ (ps_S))} (h : fX5_paints_J117 rec a1 a2 a3 a4 σ = some r) (k : ps_k (pX5_paints_S31 z a1 a2 a3) (qX5_paints_S31 z a1 a2 a3) r) : ps_at z 7 117 [(0, .ref (z_ad z 45)), (1, .int a1), (2, .int a2), (3, .int a3), (4, .int a4)] [] σ := by
  unfold fX5_paints_J117 at h
  refine ps_iincL C (pc := 117) (zz := 1) (lw := fun x10 => [(4, .int x10), (0, .ref (z_ad z 45)), (1, .int a1), (2, .int a2), (3, .int a3)]) dX5_paints_117 4 rfl (by decide) (by decide) (fun _ => rfl) h (fun x10 h => ?_)
  refine ps_goto C (pc := 120) 31 dX5_paints_120 (by decide) ?_
  obtain rfl := Option.some.inj h
  exact ps_sub [1, 2, 3, 4, 0] rfl k
def fX5_paints_S31 (rec : Int32 → Int32 → Int32 → ps_S → Option (Int32 × ps_S)) (a1 : Int32) (a2 : Int32) (a3 : Int32) (a4 : Int32) (σ : ps_S) : Option ((Int32 × ps_S) ⊕ ((ps_S) ⊕ (ps_S))) :=
  (if a3 ≤ a4 then some (.inr (.inr σ))
  else ((ps_lp (fun s => fX5_paints_S43 rec a1 a2 a3 a4 σ s.1 s.2) 100000 ((1 : Int32), (0 : Int32))).bind fun e7 =>
  (ps_ck a2 8 ((ps_let (ps_ui σ 57 (Int32.toNatClampNeg a2) a4) fun σ9 =>
  (if e7 = 0 then fX5_paints_J117 rec a1 a2 a3 a4 σ9
  else ((rec a1 (a2 + (1 : Int32)) a3 σ9).bind fun q11 =>
  (if q11.1 = 0 then fX5_paints_J117 rec a1 a2 a3 a4 q11.2
  else some (.inr (.inl q11.2))))))))))
theorem hdX5_paints : yX5_paints.cls ≠ "java/lang/invoke/MethodHandle" ∧ yX5_paints.cls ≠ "java/lang/invoke/VarHandle" ∧ (parseMethodDescriptor yX5_paints.desc).map (fun d => d.parameters.length) = some 3 := by decide +kernel
set_option maxHeartbeats 4000000 in
set_option maxRecDepth 100000 in
theorem tX5_paints_S31 {z : ps_X} (C : ps_C z cX5_paints 7 "PartSumsModel") {f9 n9 : Nat} (Z : ps_Z z f9 n9) (hzz : 1 ≤ f9 ∧ 60 ≤ n9) {rec : Int32 → Int32 → Int32 → ps_S → Option (Int32 × ps_S)} {rmr : Room} (hrr : rmr.cells = 0 ∧ rmr.slots = 0 ∧ rmr.frames + 1 ≤ f9 ∧ 8 + (7 + 11) + rmr.locals ≤ n9) (hrec : ∀ {a1 : Int32} {a2 : Int32} {a3 : Int32} {σ : ps_S} {r : Int32 × ps_S}, rec a1 a2 a3 σ = some r → ps_MI (z_l z) yX5_paints (ps_wm yX5_paints cX5_paints 7 (some .boolean)) rmr [.ref (z_ad z 45), .int a1, .int a2, .int a3] (z_E z) σ r.1 r.2) (a1 : Int32) (a2 : Int32) (a3 : Int32)  (s : Int32 × ps_S) (r : (Int32 × ps_S) ⊕ ((ps_S) ⊕ (ps_S))) (h : fX5_paints_S31 rec a1 a2 a3 s.1 s.2 = some r) (k : ps_k (pX5_paints_S31 z a1 a2 a3) (qX5_paints_S31 z a1 a2 a3) r) : pX5_paints_S31 z a1 a2 a3 s := by
  obtain ⟨a4, σ⟩ := s
  unfold fX5_paints_S31 at h
  unfold pX5_paints_S31
  refine ps_iload C (pc := 31) dX5_paints_31 4 rfl ?_
  refine ps_iload_n C (pc := 33) dX5_paints_33 3 rfl ?_
  refine ps_icmp_ge C (pc := 34) 123 dX5_paints_34 (by decide) (fun hc => ?_) (fun hc => ?_)
  · have h := ps_ift hc h
    obtain rfl := Option.some.inj h
    exact ps_sub [] rfl k
  · have h := ps_iff hc h
    refine ps_iconst C (pc := 37) (v := 1) dX5_paints_37 (by decide) ?_
    refine ps_istore C (pc := 38) (lv' := [(5, .int (1 : Int32)), (0, .ref (z_ad z 45)), (1, .int a1), (2, .int a2), (3, .int a3), (4, .int a4)]) dX5_paints_38 (by decide) rfl ?_
    refine ps_iconst C (pc := 40) (v := 0) dX5_paints_40 (by decide) ?_
    refine ps_istore C (pc := 41) (lv' := [(6, .int (0 : Int32)), (5, .int (1 : Int32)), (0, .ref (z_ad z 45)), (1, .int a1), (2, .int a2), (3, .int a3), (4, .int a4)]) dX5_paints_41 (by decide) rfl ?_
    obtain ⟨e7, he7, h⟩ := ps_bd h
    refine ps_sub [2, 3, 4, 5, 6, 1, 0] rfl ?_
    refine ps_loop (P := pX5_paints_S43 z a1 a2 a3 a4 σ) (K := qX5_paints_S43 z a1 a2 a3 a4 σ) (fun s r h k => tX5_paints_S43 C Z hzz hrr hrec a1 a2 a3 a4 σ  s r h k) _ _ _ he7 ?_
    unfold qX5_paints_S43
    refine ps_aload_n C (pc := 90) dX5_paints_90 0 rfl ?_
    refine pg_45_21 C (pc := 91) tw_817 dX5_paints_91 ?_
    refine ps_iload_n C (pc := 94) dX5_paints_94 2 rfl ?_
    refine ps_iload C (pc := 95) dX5_paints_95 4 rfl ?_
    obtain ⟨hi8, h⟩ := ps_ck_s h
    refine ps_iastL C (pc := 97) 57 rfl rfl hi8 dX5_paints_97 h (fun σ9 h => ?_)
    refine ps_iload C (pc := 98) dX5_paints_98 5 rfl ?_
    refine ps_if_eq C (pc := 100) 117 dX5_paints_100 (by decide) (fun hc => ?_) (fun hc => ?_)
    · have h := ps_ift hc h
      exact ps_sub [0, 1, 2, 3, 4] rfl (tX5_paints_J117 C Z hzz hrr hrec  h k)
    · have h := ps_iff hc h
      refine ps_aload_n C (pc := 103) dX5_paints_103 0 rfl ?_
      refine ps_iload_n C (pc := 104) dX5_paints_104 1 rfl ?_
      refine ps_iload_n C (pc := 105) dX5_paints_105 2 rfl ?_
      refine ps_iconst C (pc := 106) (v := 1) dX5_paints_106 (by decide) ?_
      refine ps_iadd C (pc := 107) dX5_paints_107 ?_
      refine ps_iload_n C (pc := 108) dX5_paints_108 3 rfl ?_
      obtain ⟨q11, hq11, h⟩ := ps_bd h
      refine ps_callVI C Z (pc := 109) (As := [.int a1, .int (a2 + (1 : Int32)), .int a3]) (k0 := 45) (hrec  hq11) (Cn := "PartSumsModel") rfl tw_1126 tw_1128 tw_60 tw_70 tw_1129 hdX5_paints hrr.1 hrr.2.1 hrr.2.2 (by decide) ps_o45 rfl rfl (Nat.le_of_ble_eq_true rfl) dX5_paints_109 rfl ?_
      refine ps_if_eq C (pc := 112) 117 dX5_paints_112 (by decide) (fun hc => ?_) (fun hc => ?_)
      · have h := ps_ift hc h
        exact ps_sub [0, 1, 2, 3, 4] rfl (tX5_paints_J117 C Z hzz hrr hrec  h k)
      · have h := ps_iff hc h
        obtain rfl := Option.some.inj h
        exact ps_sub [] rfl k
def fX5_paints_B (rec : Int32 → Int32 → Int32 → ps_S → Option (Int32 × ps_S)) (a1 : Int32) (a2 : Int32) (a3 : Int32) (σ : ps_S) : Option (Int32 × ps_S) :=
  ((fX5_things σ).bind fun q1 =>
  (if a2 = q1 then some ((1 : Int32), σ)
  else ((fX5_has a1 a2).bind fun q2 =>
  (if q2 = 0 then ((rec a1 (a2 + (1 : Int32)) a3 σ).bind fun q15 =>
  (ps_cb q15.1 (some (q15.1, q15.2))))
  else ((ps_lp (fun s => fX5_paints_S31 rec a1 a2 a3 s.1 s.2) 100000 ((0 : Int32), σ)).bind fun e12 =>
  match e12 with | .inl y13 => some ((1 : Int32), y13) | .inr y14 => some ((0 : Int32), y14))))))
set_option maxHeartbeats 4000000 in
set_option maxRecDepth 100000 in
theorem tX5_paints_B {z : ps_X} (C : ps_C z cX5_paints 7 "PartSumsModel") {f9 n9 : Nat} (Z : ps_Z z f9 n9) (hzz : 1 ≤ f9 ∧ 60 ≤ n9) {rec : Int32 → Int32 → Int32 → ps_S → Option (Int32 × ps_S)} {rmr : Room} (hrr : rmr.cells = 0 ∧ rmr.slots = 0 ∧ rmr.frames + 1 ≤ f9 ∧ 8 + (7 + 11) + rmr.locals ≤ n9) (hrec : ∀ {a1 : Int32} {a2 : Int32} {a3 : Int32} {σ : ps_S} {r : Int32 × ps_S}, rec a1 a2 a3 σ = some r → ps_MI (z_l z) yX5_paints (ps_wm yX5_paints cX5_paints 7 (some .boolean)) rmr [.ref (z_ad z 45), .int a1, .int a2, .int a3] (z_E z) σ r.1 r.2) {a1 : Int32} {a2 : Int32} {a3 : Int32} {σ : ps_S}  {r : Int32 × ps_S} (h : fX5_paints_B rec a1 a2 a3 σ = some r) (k : ps_KZ z 7 cX5_paints r.1 r.2) : ps_at z 7 0 [(0, .ref (z_ad z 45)), (1, .int a1), (2, .int a2), (3, .int a3)] [] σ := by
  unfold fX5_paints_B at h
  refine ps_iload_n C (pc := 0) dX5_paints_0 2 rfl ?_
  refine ps_aload_n C (pc := 1) dX5_paints_1 0 rfl ?_
  obtain ⟨q1, hq1, h⟩ := ps_bd h
  refine ps_callVI C Z (pc := 2) (As := []) (k0 := 45) (mX5_things  hq1) (Cn := "PartSumsModel") rfl tw_946 tw_948 tw_36 tw_70 tw_949 hdX5_things rfl rfl ⟨Nat.le_trans (by decide) hzz.1, Nat.le_trans (by decide) hzz.2⟩ (by decide) ps_o45 rfl rfl (Nat.le_of_ble_eq_true rfl) dX5_paints_2 rfl ?_
  refine ps_icmp_ne C (pc := 5) 10 dX5_paints_5 (by decide) (fun hc => ?_) (fun hc => ?_)
  · have h := ps_iff hc h
    refine ps_iload_n C (pc := 10) dX5_paints_10 1 rfl ?_
    refine ps_iload_n C (pc := 11) dX5_paints_11 2 rfl ?_
    obtain ⟨q2, hq2, h⟩ := ps_bd h
    refine ps_callSI C Z (pc := 12) (As := [.int a1, .int a2]) (mX5_has  hq2) tw_915 tw_916 tw_70 tw_917 hdX5_has rfl rfl ⟨Nat.le_trans (by decide) hzz.1, Nat.le_trans (by decide) hzz.2⟩ rfl (Nat.le_of_ble_eq_true rfl) dX5_paints_12 rfl ?_
    refine ps_if_ne C (pc := 15) 28 dX5_paints_15 (by decide) (fun hc => ?_) (fun hc => ?_)
    · have h := ps_iff hc h
      refine ps_iconst C (pc := 28) (v := 0) dX5_paints_28 (by decide) ?_
      refine ps_istore C (pc := 29) (lv' := [(4, .int (0 : Int32)), (0, .ref (z_ad z 45)), (1, .int a1), (2, .int a2), (3, .int a3)]) dX5_paints_29 (by decide) rfl ?_
      obtain ⟨e12, he12, h⟩ := ps_bd h
      refine ps_sub [1, 2, 3, 4, 0] rfl ?_
      refine ps_loop (P := pX5_paints_S31 z a1 a2 a3) (K := qX5_paints_S31 z a1 a2 a3) (fun s r h k => tX5_paints_S31 C Z hzz hrr hrec a1 a2 a3  s r h k) _ _ _ he12 ?_
      unfold qX5_paints_S31
      rcases e12 with y13 | w_y13
      · refine ps_iconst C (pc := 115) (v := 1) dX5_paints_115 (by decide) ?_
        obtain rfl := Option.some.inj h
        exact k _ _ (Or.inr rfl) dX5_paints_116
      · generalize w_y13 = y14 at h ⊢
        refine ps_iconst C (pc := 123) (v := 0) dX5_paints_123 (by decide) ?_
        obtain rfl := Option.some.inj h
        exact k _ _ (Or.inl rfl) dX5_paints_124
    · have h := ps_ift hc h
      refine ps_aload_n C (pc := 18) dX5_paints_18 0 rfl ?_
      refine ps_iload_n C (pc := 19) dX5_paints_19 1 rfl ?_
      refine ps_iload_n C (pc := 20) dX5_paints_20 2 rfl ?_
      refine ps_iconst C (pc := 21) (v := 1) dX5_paints_21 (by decide) ?_
      refine ps_iadd C (pc := 22) dX5_paints_22 ?_
      refine ps_iload_n C (pc := 23) dX5_paints_23 3 rfl ?_
      obtain ⟨q15, hq15, h⟩ := ps_bd h
      refine ps_callVI C Z (pc := 24) (As := [.int a1, .int (a2 + (1 : Int32)), .int a3]) (k0 := 45) (hrec  hq15) (Cn := "PartSumsModel") rfl tw_1126 tw_1128 tw_60 tw_70 tw_1129 hdX5_paints hrr.1 hrr.2.1 hrr.2.2 (by decide) ps_o45 rfl rfl (Nat.le_of_ble_eq_true rfl) dX5_paints_24 rfl ?_
      obtain ⟨hb16, h⟩ := ps_cb_s h
      obtain rfl := Option.some.inj h
      exact k _ _ hb16 dX5_paints_27
  · have h := ps_ift hc h
    refine ps_iconst C (pc := 8) (v := 1) dX5_paints_8 (by decide) ?_
    obtain rfl := Option.some.inj h
    exact k _ _ (Or.inr rfl) dX5_paints_9
def fX5_paints : Nat → Int32 → Int32 → Int32 → ps_S → Option (Int32 × ps_S)
  | 0 => fun _ _ _ _ => none
  | d + 1 => fX5_paints_B (fX5_paints d)
def rmX5_paints (d : Nat) : Room := { frames := d + 2, cells := 0, slots := 0, locals := 60 + d * 26 }
theorem mX5_paints {l : Launch} {E : ps_E} : ∀ (d : Nat) {σ : ps_S} {a1 : Int32} {a2 : Int32} {a3 : Int32} {r : Int32 × ps_S}  (h : fX5_paints d a1 a2 a3 σ = some r), ps_MI l yX5_paints (ps_wm yX5_paints cX5_paints 7 (some .boolean)) (rmX5_paints d) [.ref (e_ad E 45), .int a1, .int a2, .int a3] E σ r.1 r.2
  | 0, _, _, _, _, _,  h => by cases h
  | d + 1, _, _, _, _, r,  h => ps_metZ yX5_paints (rmX5_paints (d + 1)) 7 (own := "PartSumsModel") r.1 (by decide +kernel) rfl (Nat.le_of_ble_eq_true rfl) rfl (fun z e1 e2 e3 e4 e5 C k => by
    subst e2
    subst e5
    exact tX5_paints_B C (f9 := (rmX5_paints (d + 1)).frames) (n9 := (rmX5_paints (d + 1)).locals) (ps_Zof e1 e3 e4) ⟨by simp only [rmX5_paints]; omega, by simp only [rmX5_paints]; omega⟩ (rec := fX5_paints d) (rmr := rmX5_paints d) ⟨rfl, rfl, by simp only [rmX5_paints]; omega, by simp only [rmX5_paints]; omega⟩ (fun  h => mX5_paints d  h)  h k)
def fX5_colour (a1 : Int32) (a2 : Int32) (σ : ps_S) : Option (Int32 × ps_S) :=
  (ps_let (ps_ui σ 45 0 (0 : Int32)) fun σ1 =>
  ((fX5_isSet a1 σ1).bind fun q2 =>
  (if q2 = 0 then some ((-1 : Int32), σ1)
  else ((fX5_isThing a2 σ1).bind fun q3 =>
  (if q3 = 0 then some ((-1 : Int32), σ1)
  else ((fX5_has a1 a2).bind fun q4 =>
  (if q4 = 0 then some ((-1 : Int32), σ1)
  else ((fX5_fewest a1 σ1).bind fun q5 =>
  ((fX5_paints 10 a1 (0 : Int32) q5.1 q5.2).bind fun q6 =>
  (ps_ck a2 8 (some ((q6.2.1 57 (Int32.toNatClampNeg a2)), q6.2))))))))))))
set_option maxHeartbeats 4000000 in
set_option maxRecDepth 100000 in
theorem tX5_colour {z : ps_X} (C : ps_C z cX5_colour 3 "PartSumsModel") (Z : ps_Z z 13 346) {a1 : Int32} {a2 : Int32} {σ : ps_S}  {r : Int32 × ps_S} (h : fX5_colour a1 a2 σ = some r) (k : ps_KI z 3 cX5_colour r.1 r.2) : ps_at z 3 0 [(0, .ref (z_ad z 45)), (1, .int a1), (2, .int a2)] [] σ := by
  unfold fX5_colour at h
  refine ps_aload_n C (pc := 0) dX5_colour_0 0 rfl ?_
  refine ps_iconst C (pc := 1) (v := 0) dX5_colour_1 (by decide) ?_
  refine pp_45_0 C (pc := 2) tw_796 dX5_colour_2 h (fun σ1 h => ?_)
  refine ps_aload_n C (pc := 5) dX5_colour_5 0 rfl ?_
  refine ps_iload_n C (pc := 6) dX5_colour_6 1 rfl ?_
  obtain ⟨q2, hq2, h⟩ := ps_bd h
  refine ps_callVI C Z (pc := 7) (As := [.int a1]) (k0 := 45) (mX5_isSet  hq2) (Cn := "PartSumsModel") rfl tw_966 tw_968 tw_40 tw_70 tw_969 hdX5_isSet rfl rfl ⟨by decide, by decide⟩ (by decide) ps_o45 rfl rfl (Nat.le_of_ble_eq_true rfl) dX5_colour_7 rfl ?_
  refine ps_if_eq C (pc := 10) 29 dX5_colour_10 (by decide) (fun hc => ?_) (fun hc => ?_)
  · have h := ps_ift hc h
    refine ps_iconst C (pc := 29) (v := -1) dX5_colour_29 (by decide) ?_
    obtain rfl := Option.some.inj h
    exact k _ _ dX5_colour_30
  · have h := ps_iff hc h
    refine ps_aload_n C (pc := 13) dX5_colour_13 0 rfl ?_
    refine ps_iload_n C (pc := 14) dX5_colour_14 2 rfl ?_
    obtain ⟨q3, hq3, h⟩ := ps_bd h
    refine ps_callVI C Z (pc := 15) (As := [.int a2]) (k0 := 45) (mX5_isThing  hq3) (Cn := "PartSumsModel") rfl tw_974 tw_976 tw_41 tw_70 tw_977 hdX5_isThing rfl rfl ⟨by decide, by decide⟩ (by decide) ps_o45 rfl rfl (Nat.le_of_ble_eq_true rfl) dX5_colour_15 rfl ?_
    refine ps_if_eq C (pc := 18) 29 dX5_colour_18 (by decide) (fun hc => ?_) (fun hc => ?_)
    · have h := ps_ift hc h
      refine ps_iconst C (pc := 29) (v := -1) dX5_colour_29 (by decide) ?_
      obtain rfl := Option.some.inj h
      exact k _ _ dX5_colour_30
    · have h := ps_iff hc h
      refine ps_iload_n C (pc := 21) dX5_colour_21 1 rfl ?_
      refine ps_iload_n C (pc := 22) dX5_colour_22 2 rfl ?_
      obtain ⟨q4, hq4, h⟩ := ps_bd h
      refine ps_callSI C Z (pc := 23) (As := [.int a1, .int a2]) (mX5_has  hq4) tw_915 tw_916 tw_70 tw_917 hdX5_has rfl rfl ⟨by decide, by decide⟩ rfl (Nat.le_of_ble_eq_true rfl) dX5_colour_23 rfl ?_
      refine ps_if_ne C (pc := 26) 31 dX5_colour_26 (by decide) (fun hc => ?_) (fun hc => ?_)
      · have h := ps_iff hc h
        refine ps_aload_n C (pc := 31) dX5_colour_31 0 rfl ?_
        refine ps_iload_n C (pc := 32) dX5_colour_32 1 rfl ?_
        refine ps_iconst C (pc := 33) (v := 0) dX5_colour_33 (by decide) ?_
        refine ps_aload_n C (pc := 34) dX5_colour_34 0 rfl ?_
        refine ps_iload_n C (pc := 35) dX5_colour_35 1 rfl ?_
        obtain ⟨q5, hq5, h⟩ := ps_bd h
        refine ps_callVI C Z (pc := 36) (As := [.int a1]) (k0 := 45) (mX5_fewest  hq5) (Cn := "PartSumsModel") rfl tw_1114 tw_1116 tw_58 tw_70 tw_1117 hdX5_fewest rfl rfl ⟨by decide, by decide⟩ (by decide) ps_o45 rfl rfl (Nat.le_of_ble_eq_true rfl) dX5_colour_36 rfl ?_
        obtain ⟨q6, hq6, h⟩ := ps_bd h
        refine ps_callVI C Z (pc := 39) (As := [.int a1, .int (0 : Int32), .int q5.1]) (k0 := 45) (mX5_paints 10  hq6) (Cn := "PartSumsModel") rfl tw_1126 tw_1128 tw_60 tw_70 tw_1129 hdX5_paints rfl rfl ⟨by decide, by decide⟩ (by decide) ps_o45 rfl rfl (Nat.le_of_ble_eq_true rfl) dX5_colour_39 rfl ?_
        refine ps_pop C (pc := 42) dX5_colour_42 rfl ?_
        refine ps_aload_n C (pc := 43) dX5_colour_43 0 rfl ?_
        refine pg_45_21 C (pc := 44) tw_817 dX5_colour_44 ?_
        refine ps_iload_n C (pc := 47) dX5_colour_47 2 rfl ?_
        obtain ⟨hi7, h⟩ := ps_ck_s h
        refine ps_iald C (pc := 48) 57 rfl rfl hi7 dX5_colour_48 ?_
        obtain rfl := Option.some.inj h
        exact k _ _ dX5_colour_49
      · have h := ps_ift hc h
        refine ps_iconst C (pc := 29) (v := -1) dX5_colour_29 (by decide) ?_
        obtain rfl := Option.some.inj h
        exact k _ _ dX5_colour_30
def rmX5_colour : Room := { frames := 13, cells := 0, slots := 0, locals := 346 }
theorem mX5_colour {l : Launch} {E : ps_E} {σ : ps_S} {a1 : Int32} {a2 : Int32} {r : Int32 × ps_S}  (h : fX5_colour a1 a2 σ = some r) : ps_MI l yX5_colour (ps_wm yX5_colour cX5_colour 3 (some .int)) rmX5_colour [.ref (e_ad E 45), .int a1, .int a2] E σ r.1 r.2 :=
  ps_metI yX5_colour rmX5_colour 3 (own := "PartSumsModel") r.1 (by decide +kernel) rfl (Nat.le_of_ble_eq_true rfl) rfl (fun z e1 e2 e3 e4 e5 C k => by
    subst e5
    exact tX5_colour C (ps_Zof e1 e3 e4)  h k)
theorem hdX5_colour : yX5_colour.cls ≠ "java/lang/invoke/MethodHandle" ∧ yX5_colour.cls ≠ "java/lang/invoke/VarHandle" ∧ (parseMethodDescriptor yX5_colour.desc).map (fun d => d.parameters.length) = some 2 := by decide +kernel
def pX5_colourings_S39 (z : ps_X) (a1 : Int32) (a2 : Int32) (σ : ps_S) (s : Int64 × Int64 × Int32) : Prop := ps_at z 8 39 [(0, .ref (z_ad z 45)), (1, .int a1), (2, .int a2), (3, .long s.1), (5, .long s.2.1), (7, .int s.2.2)] [] σ
def qX5_colourings_S39 (z : ps_X) (a1 : Int32) (a2 : Int32) (σ : ps_S) (x : (Int64)) : Prop := match x with | y => ps_at z 8 91 [(3, .long y)] [] σ
def fX5_colourings_J82 (a1 : Int32) (a2 : Int32) (a3 : Int64) (a7 : Int32) (u0 : Int64) (u1 : Int64) (σ : ps_S) : Option ((Int64 × Int64 × Int32) ⊕ ((Int64))) :=
  (ps_let (u1 * u0) fun x7 =>
  (ps_let (a7 + (1 : Int32)) fun x8 =>
  some (.inl (a3, x7, x8))))
set_option maxHeartbeats 4000000 in
set_option maxRecDepth 100000 in
theorem tX5_colourings_J82 {z : ps_X} (C : ps_C z cX5_colourings 8 "PartSumsModel") (Z : ps_Z z 3 68) {a1 : Int32} {a2 : Int32} {a3 : Int64} {a7 : Int32} {u0 : Int64} {u1 : Int64} {σ : ps_S}  {r : (Int64 × Int64 × Int32) ⊕ ((Int64))} (h : fX5_colourings_J82 a1 a2 a3 a7 u0 u1 σ = some r) (k : ps_k (pX5_colourings_S39 z a1 a2 σ) (qX5_colourings_S39 z a1 a2 σ) r) : ps_at z 8 82 [(0, .ref (z_ad z 45)), (1, .int a1), (2, .int a2), (3, .long a3), (7, .int a7)] [.long u0, .long u1] σ := by
  unfold fX5_colourings_J82 at h
  refine ps_lmul C (pc := 82) dX5_colourings_82 ?_
  refine ps_lstoreL C (pc := 83) (lw := fun x7 => [(5, .long x7), (0, .ref (z_ad z 45)), (1, .int a1), (2, .int a2), (3, .long a3), (7, .int a7)]) dX5_colourings_83 (by decide) (fun _ => rfl) h (fun x7 h => ?_)
  refine ps_iincL C (pc := 85) (zz := 1) (lw := fun x8 => [(7, .int x8), (5, .long x7), (0, .ref (z_ad z 45)), (1, .int a1), (2, .int a2), (3, .long a3)]) dX5_colourings_85 5 rfl (by decide) (by decide) (fun _ => rfl) h (fun x8 h => ?_)
  refine ps_goto C (pc := 88) 39 dX5_colourings_88 (by decide) ?_
  obtain rfl := Option.some.inj h
  exact ps_sub [2, 3, 4, 5, 1, 0] rfl k
def fX5_colourings_S39 (a1 : Int32) (a2 : Int32) (σ : ps_S) (a3 : Int64) (a5 : Int64) (a7 : Int32) : Option ((Int64 × Int64 × Int32) ⊕ ((Int64))) :=
  (if (8 : Int32) < a7 then some (.inr a3)
  else (ps_ck (((9 : Int32) * a1) + a7) 2304 ((ps_let (a3 + ((Int32.toInt64 (σ.1 56 (Int32.toNatClampNeg (((9 : Int32) * a1) + a7)))) * a5)) fun x6 =>
  (if a2 ≤ a7 then fX5_colourings_J82 a1 a2 x6 a7 (0 : Int64) a5 σ
  else fX5_colourings_J82 a1 a2 x6 a7 (Int32.toInt64 (a2 - a7)) a5 σ)))))
set_option maxHeartbeats 4000000 in
set_option maxRecDepth 100000 in
theorem tX5_colourings_S39 {z : ps_X} (C : ps_C z cX5_colourings 8 "PartSumsModel") (Z : ps_Z z 3 68) (a1 : Int32) (a2 : Int32) (σ : ps_S)  (s : Int64 × Int64 × Int32) (r : (Int64 × Int64 × Int32) ⊕ ((Int64))) (h : fX5_colourings_S39 a1 a2 σ s.1 s.2.1 s.2.2 = some r) (k : ps_k (pX5_colourings_S39 z a1 a2 σ) (qX5_colourings_S39 z a1 a2 σ) r) : pX5_colourings_S39 z a1 a2 σ s := by
  obtain ⟨a3, a5, a7⟩ := s
  unfold fX5_colourings_S39 at h
  unfold pX5_colourings_S39
  refine ps_iload C (pc := 39) dX5_colourings_39 5 rfl ?_
  refine ps_bipush C (pc := 41) (v := 8) dX5_colourings_41 (by decide) ?_
  refine ps_icmp_gt C (pc := 43) 91 dX5_colourings_43 (by decide) (fun hc => ?_) (fun hc => ?_)
  · have h := ps_ift hc h
    obtain rfl := Option.some.inj h
    exact ps_sub [3] rfl k
  · have h := ps_iff hc h
    refine ps_lload_n C (pc := 46) dX5_colourings_46 3 rfl ?_
    refine ps_aload_n C (pc := 47) dX5_colourings_47 0 rfl ?_
    refine pg_45_20 C (pc := 48) tw_816 dX5_colourings_48 ?_
    refine ps_bipush C (pc := 51) (v := 9) dX5_colourings_51 (by decide) ?_
    refine ps_iload_n C (pc := 53) dX5_colourings_53 1 rfl ?_
    refine ps_imul C (pc := 54) dX5_colourings_54 ?_
    refine ps_iload C (pc := 55) dX5_colourings_55 5 rfl ?_
    refine ps_iadd C (pc := 57) dX5_colourings_57 ?_
    obtain ⟨hi5, h⟩ := ps_ck_s h
    refine ps_iald C (pc := 58) 56 rfl rfl hi5 dX5_colourings_58 ?_
    refine ps_i2l C (pc := 59) dX5_colourings_59 ?_
    refine ps_lload C (pc := 60) dX5_colourings_60 4 rfl ?_
    refine ps_lmul C (pc := 62) dX5_colourings_62 ?_
    refine ps_ladd C (pc := 63) dX5_colourings_63 ?_
    refine ps_lstoreL_n C (pc := 64) (lw := fun x6 => [(3, .long x6), (0, .ref (z_ad z 45)), (1, .int a1), (2, .int a2), (5, .long a5), (7, .int a7)]) dX5_colourings_64 (by decide) (fun _ => rfl) h (fun x6 h => ?_)
    refine ps_lload C (pc := 65) dX5_colourings_65 4 rfl ?_
    refine ps_iload_n C (pc := 67) dX5_colourings_67 3 rfl ?_
    refine ps_iload C (pc := 68) dX5_colourings_68 5 rfl ?_
    refine ps_icmp_le C (pc := 70) 81 dX5_colourings_70 (by decide) (fun hc => ?_) (fun hc => ?_)
    · have h := ps_ift hc h
      refine ps_lconst C (pc := 81) (v := 0) dX5_colourings_81 (by decide) ?_
      exact ps_sub [1, 2, 3, 0, 5] rfl (tX5_colourings_J82 C Z  h k)
    · have h := ps_iff hc h
      refine ps_iload_n C (pc := 73) dX5_colourings_73 3 rfl ?_
      refine ps_iload C (pc := 74) dX5_colourings_74 5 rfl ?_
      refine ps_isub C (pc := 76) dX5_colourings_76 ?_
      refine ps_i2l C (pc := 77) dX5_colourings_77 ?_
      refine ps_goto C (pc := 78) 82 dX5_colourings_78 (by decide) ?_
      exact ps_sub [1, 2, 3, 0, 5] rfl (tX5_colourings_J82 C Z  h k)
def fX5_colourings (a1 : Int32) (a2 : Int32) (σ : ps_S) : Option (Int64 × ps_S) :=
  (ps_let (ps_ui σ 45 0 (0 : Int32)) fun σ1 =>
  ((fX5_isSet a1 σ1).bind fun q2 =>
  (if q2 = 0 then some ((-1 : Int64), σ1)
  else ((fX5_isIn a2 (0 : Int32) (99 : Int32)).bind fun q3 =>
  (if q3 = 0 then some ((-1 : Int64), σ1)
  else ((fX5_laysPlain σ1).bind fun q4 =>
  ((ps_lp (fun s => fX5_colourings_S39 a1 a2 q4 s.1 s.2.1 s.2.2) 100000 ((0 : Int64), (1 : Int64), (0 : Int32))).bind fun e9 =>
  some (e9, q4))))))))
set_option maxHeartbeats 4000000 in
set_option maxRecDepth 100000 in
theorem tX5_colourings {z : ps_X} (C : ps_C z cX5_colourings 8 "PartSumsModel") (Z : ps_Z z 3 68) {a1 : Int32} {a2 : Int32} {σ : ps_S}  {r : Int64 × ps_S} (h : fX5_colourings a1 a2 σ = some r) (k : ps_KL z 8 cX5_colourings r.1 r.2) : ps_at z 8 0 [(0, .ref (z_ad z 45)), (1, .int a1), (2, .int a2)] [] σ := by
  unfold fX5_colourings at h
  refine ps_aload_n C (pc := 0) dX5_colourings_0 0 rfl ?_
  refine ps_iconst C (pc := 1) (v := 0) dX5_colourings_1 (by decide) ?_
  refine pp_45_0 C (pc := 2) tw_796 dX5_colourings_2 h (fun σ1 h => ?_)
  refine ps_aload_n C (pc := 5) dX5_colourings_5 0 rfl ?_
  refine ps_iload_n C (pc := 6) dX5_colourings_6 1 rfl ?_
  obtain ⟨q2, hq2, h⟩ := ps_bd h
  refine ps_callVI C Z (pc := 7) (As := [.int a1]) (k0 := 45) (mX5_isSet  hq2) (Cn := "PartSumsModel") rfl tw_966 tw_968 tw_40 tw_70 tw_969 hdX5_isSet rfl rfl ⟨by decide, by decide⟩ (by decide) ps_o45 rfl rfl (Nat.le_of_ble_eq_true rfl) dX5_colourings_7 rfl ?_
  refine ps_if_eq C (pc := 10) 23 dX5_colourings_10 (by decide) (fun hc => ?_) (fun hc => ?_)
  · have h := ps_ift hc h
    refine ps_ldc2 C (pc := 23) tw_1134 dX5_colourings_23 ?_
    obtain rfl := Option.some.inj h
    exact k _ _ dX5_colourings_26
  · have h := ps_iff hc h
    refine ps_iload_n C (pc := 13) dX5_colourings_13 2 rfl ?_
    refine ps_iconst C (pc := 14) (v := 0) dX5_colourings_14 (by decide) ?_
    refine ps_bipush C (pc := 15) (v := 99) dX5_colourings_15 (by decide) ?_
    obtain ⟨q3, hq3, h⟩ := ps_bd h
    refine ps_callSI C Z (pc := 17) (As := [.int a2, .int (0 : Int32), .int (99 : Int32)]) (mX5_isIn  hq3) tw_904 tw_905 tw_70 tw_906 hdX5_isIn rfl rfl ⟨by decide, by decide⟩ rfl (Nat.le_of_ble_eq_true rfl) dX5_colourings_17 rfl ?_
    refine ps_if_ne C (pc := 20) 27 dX5_colourings_20 (by decide) (fun hc => ?_) (fun hc => ?_)
    · have h := ps_iff hc h
      refine ps_aload_n C (pc := 27) dX5_colourings_27 0 rfl ?_
      obtain ⟨q4, hq4, h⟩ := ps_bd h
      refine ps_callVV C Z (pc := 28) (As := []) (k0 := 45) (mX5_laysPlain  hq4) (Cn := "PartSumsModel") rfl tw_1118 tw_1120 tw_59 tw_70 tw_1121 hdX5_laysPlain rfl rfl ⟨by decide, by decide⟩ (by decide) ps_o45 rfl rfl (Nat.le_of_ble_eq_true rfl) dX5_colourings_28 rfl ?_
      refine ps_lconst C (pc := 31) (v := 0) dX5_colourings_31 (by decide) ?_
      refine ps_lstore_n C (pc := 32) (lv' := [(3, .long (0 : Int64)), (0, .ref (z_ad z 45)), (1, .int a1), (2, .int a2)]) dX5_colourings_32 (by decide) rfl ?_
      refine ps_lconst C (pc := 33) (v := 1) dX5_colourings_33 (by decide) ?_
      refine ps_lstore C (pc := 34) (lv' := [(5, .long (1 : Int64)), (3, .long (0 : Int64)), (0, .ref (z_ad z 45)), (1, .int a1), (2, .int a2)]) dX5_colourings_34 (by decide) rfl ?_
      refine ps_iconst C (pc := 36) (v := 0) dX5_colourings_36 (by decide) ?_
      refine ps_istore C (pc := 37) (lv' := [(7, .int (0 : Int32)), (5, .long (1 : Int64)), (3, .long (0 : Int64)), (0, .ref (z_ad z 45)), (1, .int a1), (2, .int a2)]) dX5_colourings_37 (by decide) rfl ?_
      obtain ⟨e9, he9, h⟩ := ps_bd h
      refine ps_sub [3, 4, 5, 2, 1, 0] rfl ?_
      refine ps_loop (P := pX5_colourings_S39 z a1 a2 q4) (K := qX5_colourings_S39 z a1 a2 q4) (fun s r h k => tX5_colourings_S39 C Z a1 a2 q4  s r h k) _ _ _ he9 ?_
      unfold qX5_colourings_S39
      refine ps_lload_n C (pc := 91) dX5_colourings_91 0 rfl ?_
      obtain rfl := Option.some.inj h
      exact k _ _ dX5_colourings_92
    · have h := ps_ift hc h
      refine ps_ldc2 C (pc := 23) tw_1134 dX5_colourings_23 ?_
      obtain rfl := Option.some.inj h
      exact k _ _ dX5_colourings_26
def rmX5_colourings : Room := { frames := 3, cells := 0, slots := 0, locals := 68 }
theorem mX5_colourings {l : Launch} {E : ps_E} {σ : ps_S} {a1 : Int32} {a2 : Int32} {r : Int64 × ps_S}  (h : fX5_colourings a1 a2 σ = some r) : ps_ML l yX5_colourings (ps_wm yX5_colourings cX5_colourings 8 (some .long)) rmX5_colourings [.ref (e_ad E 45), .int a1, .int a2] E σ r.1 r.2 :=
  ps_metL yX5_colourings rmX5_colourings 8 (own := "PartSumsModel") r.1 (by decide +kernel) rfl (Nat.le_of_ble_eq_true rfl) rfl (fun z e1 e2 e3 e4 e5 C k => by
    subst e5
    exact tX5_colourings C (ps_Zof e1 e3 e4)  h k)
theorem hdX5_colourings : yX5_colourings.cls ≠ "java/lang/invoke/MethodHandle" ∧ yX5_colourings.cls ≠ "java/lang/invoke/VarHandle" ∧ (parseMethodDescriptor yX5_colourings.desc).map (fun d => d.parameters.length) = some 2 := by decide +kernel
def pX5_hangs_S24 (z : ps_X) (a1 : Int32) (s : Int32 × ps_S) : Prop := ps_at z 4 24 [(0, .ref (z_ad z 45)), (1, .int a1), (2, .int s.1)] [] s.2
def qX5_hangs_S24 (z : ps_X) (a1 : Int32) (x : (ps_S)) : Prop := match x with | y => ps_at z 4 103 [(0, .ref (z_ad z 45)), (1, .int a1)] [] y
def pX5_hangs_S48 (z : ps_X) (a1 : Int32) (a2 : Int32) (s : Int32 × ps_S) : Prop := ps_at z 4 48 [(0, .ref (z_ad z 45)), (1, .int a1), (2, .int a2), (3, .int s.1)] [] s.2
def qX5_hangs_S48 (z : ps_X) (a1 : Int32) (a2 : Int32) (x : (ps_S)) : Prop := match x with | y => ps_at z 4 97 [(0, .ref (z_ad z 45)), (1, .int a1), (2, .int a2)] [] y
def fX5_hangs_J88 (a1 : Int32) (a2 : Int32) (a3 : Int32) (σ : ps_S) : Option ((Int32 × ps_S) ⊕ ((ps_S))) :=
  (ps_let ((a3 - (1 : Int32)) &&& a2) fun x9 =>
  some (.inl (x9, σ)))
set_option maxHeartbeats 4000000 in
set_option maxRecDepth 100000 in
theorem tX5_hangs_J88 {z : ps_X} (C : ps_C z cX5_hangs 4 "PartSumsModel") (Z : ps_Z z 3 61) {a1 : Int32} {a2 : Int32} {a3 : Int32} {σ : ps_S}  {r : (Int32 × ps_S) ⊕ ((ps_S))} (h : fX5_hangs_J88 a1 a2 a3 σ = some r) (k : ps_k (pX5_hangs_S48 z a1 a2) (qX5_hangs_S48 z a1 a2) r) : ps_at z 4 88 [(0, .ref (z_ad z 45)), (1, .int a1), (2, .int a2), (3, .int a3)] [] σ := by
  unfold fX5_hangs_J88 at h
  refine ps_iload_n C (pc := 88) dX5_hangs_88 3 rfl ?_
  refine ps_iconst C (pc := 89) (v := 1) dX5_hangs_89 (by decide) ?_
  refine ps_isub C (pc := 90) dX5_hangs_90 ?_
  refine ps_iload_n C (pc := 91) dX5_hangs_91 2 rfl ?_
  refine ps_iand C (pc := 92) dX5_hangs_92 ?_
  refine ps_istoreL_n C (pc := 93) (lw := fun x9 => [(3, .int x9), (0, .ref (z_ad z 45)), (1, .int a1), (2, .int a2)]) dX5_hangs_93 (by decide) (fun _ => rfl) h (fun x9 h => ?_)
  refine ps_goto C (pc := 94) 48 dX5_hangs_94 (by decide) ?_
  obtain rfl := Option.some.inj h
  exact ps_sub [1, 2, 3, 0] rfl k
def fX5_hangs_S48 (a1 : Int32) (a2 : Int32) (a3 : Int32) (σ : ps_S) : Option ((Int32 × ps_S) ⊕ ((ps_S))) :=
  (if a3 ≤ 0 then some (.inr σ)
  else (if ((a3 &&& a2) &&& (-a2)) = 0 then fX5_hangs_J88 a1 a2 a3 σ
  else (ps_ck a2 256 ((ps_ck a3 256 (((fX5_pairsIn (a2 &&& (a3 ^^^ (-1 : Int32))) σ).bind fun q12 =>
  (ps_ck a2 256 ((ps_let (ps_ui σ 58 (Int32.toNatClampNeg a2) ((σ.1 58 (Int32.toNatClampNeg a2)) - ((σ.1 58 (Int32.toNatClampNeg a3)) * ((1 : Int32) <<< (q12 &&& 31))))) fun σ14 =>
  fX5_hangs_J88 a1 a2 a3 σ14))))))))))
set_option maxHeartbeats 4000000 in
set_option maxRecDepth 100000 in
theorem tX5_hangs_S48 {z : ps_X} (C : ps_C z cX5_hangs 4 "PartSumsModel") (Z : ps_Z z 3 61) (a1 : Int32) (a2 : Int32)  (s : Int32 × ps_S) (r : (Int32 × ps_S) ⊕ ((ps_S))) (h : fX5_hangs_S48 a1 a2 s.1 s.2 = some r) (k : ps_k (pX5_hangs_S48 z a1 a2) (qX5_hangs_S48 z a1 a2) r) : pX5_hangs_S48 z a1 a2 s := by
  obtain ⟨a3, σ⟩ := s
  unfold fX5_hangs_S48 at h
  unfold pX5_hangs_S48
  refine ps_iload_n C (pc := 48) dX5_hangs_48 3 rfl ?_
  refine ps_if_le C (pc := 49) 97 dX5_hangs_49 (by decide) (fun hc => ?_) (fun hc => ?_)
  · have h := ps_ift hc h
    obtain rfl := Option.some.inj h
    exact ps_sub [0, 1, 2] rfl k
  · have h := ps_iff hc h
    refine ps_iload_n C (pc := 52) dX5_hangs_52 3 rfl ?_
    refine ps_iload_n C (pc := 53) dX5_hangs_53 2 rfl ?_
    refine ps_iand C (pc := 54) dX5_hangs_54 ?_
    refine ps_iload_n C (pc := 55) dX5_hangs_55 2 rfl ?_
    refine ps_ineg C (pc := 56) dX5_hangs_56 ?_
    refine ps_iand C (pc := 57) dX5_hangs_57 ?_
    refine ps_if_eq C (pc := 58) 88 dX5_hangs_58 (by decide) (fun hc => ?_) (fun hc => ?_)
    · have h := ps_ift hc h
      exact ps_sub [0, 1, 2, 3] rfl (tX5_hangs_J88 C Z  h k)
    · have h := ps_iff hc h
      refine ps_aload_n C (pc := 61) dX5_hangs_61 0 rfl ?_
      refine pg_45_22 C (pc := 62) tw_818 dX5_hangs_62 ?_
      refine ps_iload_n C (pc := 65) dX5_hangs_65 2 rfl ?_
      refine ps_dup2_11 C (pc := 66) dX5_hangs_66 rfl rfl ?_
      obtain ⟨hi10, h⟩ := ps_ck_s h
      refine ps_iald C (pc := 67) 58 rfl rfl hi10 dX5_hangs_67 ?_
      refine ps_aload_n C (pc := 68) dX5_hangs_68 0 rfl ?_
      refine pg_45_22 C (pc := 69) tw_818 dX5_hangs_69 ?_
      refine ps_iload_n C (pc := 72) dX5_hangs_72 3 rfl ?_
      obtain ⟨hi11, h⟩ := ps_ck_s h
      refine ps_iald C (pc := 73) 58 rfl rfl hi11 dX5_hangs_73 ?_
      refine ps_iconst C (pc := 74) (v := 1) dX5_hangs_74 (by decide) ?_
      refine ps_aload_n C (pc := 75) dX5_hangs_75 0 rfl ?_
      refine ps_iload_n C (pc := 76) dX5_hangs_76 2 rfl ?_
      refine ps_iload_n C (pc := 77) dX5_hangs_77 3 rfl ?_
      refine ps_iconst C (pc := 78) (v := -1) dX5_hangs_78 (by decide) ?_
      refine ps_ixor C (pc := 79) dX5_hangs_79 ?_
      refine ps_iand C (pc := 80) dX5_hangs_80 ?_
      obtain ⟨q12, hq12, h⟩ := ps_bd h
      refine ps_callVI C Z (pc := 81) (As := [.int (a2 &&& (a3 ^^^ (-1 : Int32)))]) (k0 := 45) (mX5_pairsIn  hq12) (Cn := "PartSumsModel") rfl tw_958 tw_960 tw_39 tw_70 tw_961 hdX5_pairsIn rfl rfl ⟨by decide, by decide⟩ (by decide) ps_o45 rfl rfl (Nat.le_of_ble_eq_true rfl) dX5_hangs_81 rfl ?_
      refine ps_ishl C (pc := 84) dX5_hangs_84 ?_
      refine ps_imul C (pc := 85) dX5_hangs_85 ?_
      refine ps_isub C (pc := 86) dX5_hangs_86 ?_
      obtain ⟨hi13, h⟩ := ps_ck_s h
      refine ps_iastL C (pc := 87) 58 rfl rfl hi13 dX5_hangs_87 h (fun σ14 h => ?_)
      exact ps_sub [0, 1, 2, 3] rfl (tX5_hangs_J88 C Z  h k)
def fX5_hangs_S24 (a1 : Int32) (a2 : Int32) (σ : ps_S) : Option ((Int32 × ps_S) ⊕ ((ps_S))) :=
  (if a1 < a2 then some (.inr σ)
  else ((fX5_pairsIn a2 σ).bind fun q5 =>
  (ps_ck a2 256 ((ps_let (ps_ui σ 58 (Int32.toNatClampNeg a2) ((1 : Int32) <<< (q5 &&& 31))) fun σ7 =>
  (ps_let ((a2 - (1 : Int32)) &&& a2) fun x8 =>
  ((ps_lp (fun s => fX5_hangs_S48 a1 a2 s.1 s.2) 100000 (x8, σ7)).bind fun e15 =>
  (ps_let (a2 + (1 : Int32)) fun x16 =>
  some (.inl (x16, e15))))))))))
set_option maxHeartbeats 4000000 in
set_option maxRecDepth 100000 in
theorem tX5_hangs_S24 {z : ps_X} (C : ps_C z cX5_hangs 4 "PartSumsModel") (Z : ps_Z z 3 61) (a1 : Int32)  (s : Int32 × ps_S) (r : (Int32 × ps_S) ⊕ ((ps_S))) (h : fX5_hangs_S24 a1 s.1 s.2 = some r) (k : ps_k (pX5_hangs_S24 z a1) (qX5_hangs_S24 z a1) r) : pX5_hangs_S24 z a1 s := by
  obtain ⟨a2, σ⟩ := s
  unfold fX5_hangs_S24 at h
  unfold pX5_hangs_S24
  refine ps_iload_n C (pc := 24) dX5_hangs_24 2 rfl ?_
  refine ps_iload_n C (pc := 25) dX5_hangs_25 1 rfl ?_
  refine ps_icmp_gt C (pc := 26) 103 dX5_hangs_26 (by decide) (fun hc => ?_) (fun hc => ?_)
  · have h := ps_ift hc h
    obtain rfl := Option.some.inj h
    exact ps_sub [0, 1] rfl k
  · have h := ps_iff hc h
    refine ps_aload_n C (pc := 29) dX5_hangs_29 0 rfl ?_
    refine pg_45_22 C (pc := 30) tw_818 dX5_hangs_30 ?_
    refine ps_iload_n C (pc := 33) dX5_hangs_33 2 rfl ?_
    refine ps_iconst C (pc := 34) (v := 1) dX5_hangs_34 (by decide) ?_
    refine ps_aload_n C (pc := 35) dX5_hangs_35 0 rfl ?_
    refine ps_iload_n C (pc := 36) dX5_hangs_36 2 rfl ?_
    obtain ⟨q5, hq5, h⟩ := ps_bd h
    refine ps_callVI C Z (pc := 37) (As := [.int a2]) (k0 := 45) (mX5_pairsIn  hq5) (Cn := "PartSumsModel") rfl tw_958 tw_960 tw_39 tw_70 tw_961 hdX5_pairsIn rfl rfl ⟨by decide, by decide⟩ (by decide) ps_o45 rfl rfl (Nat.le_of_ble_eq_true rfl) dX5_hangs_37 rfl ?_
    refine ps_ishl C (pc := 40) dX5_hangs_40 ?_
    obtain ⟨hi6, h⟩ := ps_ck_s h
    refine ps_iastL C (pc := 41) 58 rfl rfl hi6 dX5_hangs_41 h (fun σ7 h => ?_)
    refine ps_iload_n C (pc := 42) dX5_hangs_42 2 rfl ?_
    refine ps_iconst C (pc := 43) (v := 1) dX5_hangs_43 (by decide) ?_
    refine ps_isub C (pc := 44) dX5_hangs_44 ?_
    refine ps_iload_n C (pc := 45) dX5_hangs_45 2 rfl ?_
    refine ps_iand C (pc := 46) dX5_hangs_46 ?_
    refine ps_istoreL_n C (pc := 47) (lw := fun x8 => [(3, .int x8), (0, .ref (z_ad z 45)), (1, .int a1), (2, .int a2)]) dX5_hangs_47 (by decide) (fun _ => rfl) h (fun x8 h => ?_)
    obtain ⟨e15, he15, h⟩ := ps_bd h
    refine ps_sub [1, 2, 3, 0] rfl ?_
    refine ps_loop (P := pX5_hangs_S48 z a1 a2) (K := qX5_hangs_S48 z a1 a2) (fun s r h k => tX5_hangs_S48 C Z a1 a2  s r h k) _ _ _ he15 ?_
    unfold qX5_hangs_S48
    refine ps_iincL C (pc := 97) (zz := 1) (lw := fun x16 => [(2, .int x16), (0, .ref (z_ad z 45)), (1, .int a1)]) dX5_hangs_97 2 rfl (by decide) (by decide) (fun _ => rfl) h (fun x16 h => ?_)
    refine ps_goto C (pc := 100) 24 dX5_hangs_100 (by decide) ?_
    obtain rfl := Option.some.inj h
    exact ps_sub [1, 2, 0] rfl k
def fX5_hangs (a1 : Int32) (σ : ps_S) : Option (Int32 × ps_S) :=
  (ps_let (ps_ui σ 45 0 (0 : Int32)) fun σ1 =>
  ((fX5_isSet a1 σ1).bind fun q2 =>
  (if q2 = 0 then some ((-1 : Int32), σ1)
  else (ps_ck (0 : Int32) 256 ((ps_let (ps_ui σ1 58 (Int32.toNatClampNeg (0 : Int32)) (0 : Int32)) fun σ4 =>
  ((ps_lp (fun s => fX5_hangs_S24 a1 s.1 s.2) 100000 ((1 : Int32), σ4)).bind fun e17 =>
  (ps_ck a1 256 (some ((e17.1 58 (Int32.toNatClampNeg a1)), e17))))))))))
set_option maxHeartbeats 4000000 in
set_option maxRecDepth 100000 in
theorem tX5_hangs {z : ps_X} (C : ps_C z cX5_hangs 4 "PartSumsModel") (Z : ps_Z z 3 61) {a1 : Int32} {σ : ps_S}  {r : Int32 × ps_S} (h : fX5_hangs a1 σ = some r) (k : ps_KI z 4 cX5_hangs r.1 r.2) : ps_at z 4 0 [(0, .ref (z_ad z 45)), (1, .int a1)] [] σ := by
  unfold fX5_hangs at h
  refine ps_aload_n C (pc := 0) dX5_hangs_0 0 rfl ?_
  refine ps_iconst C (pc := 1) (v := 0) dX5_hangs_1 (by decide) ?_
  refine pp_45_0 C (pc := 2) tw_796 dX5_hangs_2 h (fun σ1 h => ?_)
  refine ps_aload_n C (pc := 5) dX5_hangs_5 0 rfl ?_
  refine ps_iload_n C (pc := 6) dX5_hangs_6 1 rfl ?_
  obtain ⟨q2, hq2, h⟩ := ps_bd h
  refine ps_callVI C Z (pc := 7) (As := [.int a1]) (k0 := 45) (mX5_isSet  hq2) (Cn := "PartSumsModel") rfl tw_966 tw_968 tw_40 tw_70 tw_969 hdX5_isSet rfl rfl ⟨by decide, by decide⟩ (by decide) ps_o45 rfl rfl (Nat.le_of_ble_eq_true rfl) dX5_hangs_7 rfl ?_
  refine ps_if_ne C (pc := 10) 15 dX5_hangs_10 (by decide) (fun hc => ?_) (fun hc => ?_)
  · have h := ps_iff hc h
    refine ps_aload_n C (pc := 15) dX5_hangs_15 0 rfl ?_
    refine pg_45_22 C (pc := 16) tw_818 dX5_hangs_16 ?_
    refine ps_iconst C (pc := 19) (v := 0) dX5_hangs_19 (by decide) ?_
    refine ps_iconst C (pc := 20) (v := 0) dX5_hangs_20 (by decide) ?_
    obtain ⟨hi3, h⟩ := ps_ck_s h
    refine ps_iastL C (pc := 21) 58 rfl rfl hi3 dX5_hangs_21 h (fun σ4 h => ?_)
    refine ps_iconst C (pc := 22) (v := 1) dX5_hangs_22 (by decide) ?_
    refine ps_istore_n C (pc := 23) (lv' := [(2, .int (1 : Int32)), (0, .ref (z_ad z 45)), (1, .int a1)]) dX5_hangs_23 (by decide) rfl ?_
    obtain ⟨e17, he17, h⟩ := ps_bd h
    refine ps_sub [1, 2, 0] rfl ?_
    refine ps_loop (P := pX5_hangs_S24 z a1) (K := qX5_hangs_S24 z a1) (fun s r h k => tX5_hangs_S24 C Z a1  s r h k) _ _ _ he17 ?_
    unfold qX5_hangs_S24
    refine ps_aload_n C (pc := 103) dX5_hangs_103 0 rfl ?_
    refine pg_45_22 C (pc := 104) tw_818 dX5_hangs_104 ?_
    refine ps_iload_n C (pc := 107) dX5_hangs_107 1 rfl ?_
    obtain ⟨hi18, h⟩ := ps_ck_s h
    refine ps_iald C (pc := 108) 58 rfl rfl hi18 dX5_hangs_108 ?_
    obtain rfl := Option.some.inj h
    exact k _ _ dX5_hangs_109
  · have h := ps_ift hc h
    refine ps_iconst C (pc := 13) (v := -1) dX5_hangs_13 (by decide) ?_
    obtain rfl := Option.some.inj h
    exact k _ _ dX5_hangs_14
def rmX5_hangs : Room := { frames := 3, cells := 0, slots := 0, locals := 61 }
theorem mX5_hangs {l : Launch} {E : ps_E} {σ : ps_S} {a1 : Int32} {r : Int32 × ps_S}  (h : fX5_hangs a1 σ = some r) : ps_MI l yX5_hangs (ps_wm yX5_hangs cX5_hangs 4 (some .int)) rmX5_hangs [.ref (e_ad E 45), .int a1] E σ r.1 r.2 :=
  ps_metI yX5_hangs rmX5_hangs 4 (own := "PartSumsModel") r.1 (by decide +kernel) rfl (Nat.le_of_ble_eq_true rfl) rfl (fun z e1 e2 e3 e4 e5 C k => by
    subst e5
    exact tX5_hangs C (ps_Zof e1 e3 e4)  h k)
theorem hdX5_hangs : yX5_hangs.cls ≠ "java/lang/invoke/MethodHandle" ∧ yX5_hangs.cls ≠ "java/lang/invoke/VarHandle" ∧ (parseMethodDescriptor yX5_hangs.desc).map (fun d => d.parameters.length) = some 1 := by decide +kernel
def fX5_weigh (a1 : Int32) (a2 : Int32) (σ : ps_S) : Option (Int32 × ps_S) :=
  (ps_let (ps_ui σ 45 0 (0 : Int32)) fun σ1 =>
  ((fX5_isSet a1 σ1).bind fun q2 =>
  (if q2 = 0 then some ((-1 : Int32), σ1)
  else ((fX5_isIn a2 (0 : Int32) (999 : Int32)).bind fun q3 =>
  (if q3 = 0 then some ((-1 : Int32), σ1)
  else (ps_ck ((1 : Int32) + a1) 1289 ((if (σ1.1 47 (Int32.toNatClampNeg ((1 : Int32) + a1))) = a2 then some ((-1 : Int32), σ1)
  else ((fX5_snap σ1).bind fun q5 =>
  (ps_ck ((1 : Int32) + a1) 1289 ((ps_let (q5.1 47 (Int32.toNatClampNeg ((1 : Int32) + a1))) fun x7 =>
  (ps_ck ((1 : Int32) + a1) 1289 ((ps_let (ps_ui q5 47 (Int32.toNatClampNeg ((1 : Int32) + a1)) a2) fun σ9 =>
  some (x7, σ9))))))))))))))))
set_option maxHeartbeats 4000000 in
set_option maxRecDepth 100000 in
theorem tX5_weigh {z : ps_X} (C : ps_C z cX5_weigh 4 "PartSumsModel") (Z : ps_Z z 3 61) {a1 : Int32} {a2 : Int32} {σ : ps_S}  {r : Int32 × ps_S} (h : fX5_weigh a1 a2 σ = some r) (k : ps_KI z 4 cX5_weigh r.1 r.2) : ps_at z 4 0 [(0, .ref (z_ad z 45)), (1, .int a1), (2, .int a2)] [] σ := by
  unfold fX5_weigh at h
  refine ps_aload_n C (pc := 0) dX5_weigh_0 0 rfl ?_
  refine ps_iconst C (pc := 1) (v := 0) dX5_weigh_1 (by decide) ?_
  refine pp_45_0 C (pc := 2) tw_796 dX5_weigh_2 h (fun σ1 h => ?_)
  refine ps_aload_n C (pc := 5) dX5_weigh_5 0 rfl ?_
  refine ps_iload_n C (pc := 6) dX5_weigh_6 1 rfl ?_
  obtain ⟨q2, hq2, h⟩ := ps_bd h
  refine ps_callVI C Z (pc := 7) (As := [.int a1]) (k0 := 45) (mX5_isSet  hq2) (Cn := "PartSumsModel") rfl tw_966 tw_968 tw_40 tw_70 tw_969 hdX5_isSet rfl rfl ⟨by decide, by decide⟩ (by decide) ps_o45 rfl rfl (Nat.le_of_ble_eq_true rfl) dX5_weigh_7 rfl ?_
  refine ps_if_eq C (pc := 10) 36 dX5_weigh_10 (by decide) (fun hc => ?_) (fun hc => ?_)
  · have h := ps_ift hc h
    refine ps_iconst C (pc := 36) (v := -1) dX5_weigh_36 (by decide) ?_
    obtain rfl := Option.some.inj h
    exact k _ _ dX5_weigh_37
  · have h := ps_iff hc h
    refine ps_iload_n C (pc := 13) dX5_weigh_13 2 rfl ?_
    refine ps_iconst C (pc := 14) (v := 0) dX5_weigh_14 (by decide) ?_
    refine ps_sipush C (pc := 15) (v := 999) dX5_weigh_15 (by decide) ?_
    obtain ⟨q3, hq3, h⟩ := ps_bd h
    refine ps_callSI C Z (pc := 18) (As := [.int a2, .int (0 : Int32), .int (999 : Int32)]) (mX5_isIn  hq3) tw_904 tw_905 tw_70 tw_906 hdX5_isIn rfl rfl ⟨by decide, by decide⟩ rfl (Nat.le_of_ble_eq_true rfl) dX5_weigh_18 rfl ?_
    refine ps_if_eq C (pc := 21) 36 dX5_weigh_21 (by decide) (fun hc => ?_) (fun hc => ?_)
    · have h := ps_ift hc h
      refine ps_iconst C (pc := 36) (v := -1) dX5_weigh_36 (by decide) ?_
      obtain rfl := Option.some.inj h
      exact k _ _ dX5_weigh_37
    · have h := ps_iff hc h
      refine ps_aload_n C (pc := 24) dX5_weigh_24 0 rfl ?_
      refine pg_45_10 C (pc := 25) tw_806 dX5_weigh_25 ?_
      refine ps_iconst C (pc := 28) (v := 1) dX5_weigh_28 (by decide) ?_
      refine ps_iload_n C (pc := 29) dX5_weigh_29 1 rfl ?_
      refine ps_iadd C (pc := 30) dX5_weigh_30 ?_
      obtain ⟨hi4, h⟩ := ps_ck_s h
      refine ps_iald C (pc := 31) 47 rfl rfl hi4 dX5_weigh_31 ?_
      refine ps_iload_n C (pc := 32) dX5_weigh_32 2 rfl ?_
      refine ps_icmp_ne C (pc := 33) 38 dX5_weigh_33 (by decide) (fun hc => ?_) (fun hc => ?_)
      · have h := ps_iff hc h
        refine ps_aload_n C (pc := 38) dX5_weigh_38 0 rfl ?_
        obtain ⟨q5, hq5, h⟩ := ps_bd h
        refine ps_callVV C Z (pc := 39) (As := []) (k0 := 45) (mX5_snap  hq5) (Cn := "PartSumsModel") rfl tw_994 tw_996 tw_44 tw_70 tw_997 hdX5_snap rfl rfl ⟨by decide, by decide⟩ (by decide) ps_o45 rfl rfl (Nat.le_of_ble_eq_true rfl) dX5_weigh_39 rfl ?_
        refine ps_aload_n C (pc := 42) dX5_weigh_42 0 rfl ?_
        refine pg_45_10 C (pc := 43) tw_806 dX5_weigh_43 ?_
        refine ps_iconst C (pc := 46) (v := 1) dX5_weigh_46 (by decide) ?_
        refine ps_iload_n C (pc := 47) dX5_weigh_47 1 rfl ?_
        refine ps_iadd C (pc := 48) dX5_weigh_48 ?_
        obtain ⟨hi6, h⟩ := ps_ck_s h
        refine ps_iald C (pc := 49) 47 rfl rfl hi6 dX5_weigh_49 ?_
        refine ps_istoreL_n C (pc := 50) (lw := fun x7 => [(3, .int x7), (0, .ref (z_ad z 45)), (1, .int a1), (2, .int a2)]) dX5_weigh_50 (by decide) (fun _ => rfl) h (fun x7 h => ?_)
        refine ps_aload_n C (pc := 51) dX5_weigh_51 1 rfl ?_
        refine pg_45_10 C (pc := 52) tw_806 dX5_weigh_52 ?_
        refine ps_iconst C (pc := 55) (v := 1) dX5_weigh_55 (by decide) ?_
        refine ps_iload_n C (pc := 56) dX5_weigh_56 2 rfl ?_
        refine ps_iadd C (pc := 57) dX5_weigh_57 ?_
        refine ps_iload_n C (pc := 58) dX5_weigh_58 3 rfl ?_
        obtain ⟨hi8, h⟩ := ps_ck_s h
        refine ps_iastL C (pc := 59) 47 rfl rfl hi8 dX5_weigh_59 h (fun σ9 h => ?_)
        refine ps_iload_n C (pc := 60) dX5_weigh_60 0 rfl ?_
        obtain rfl := Option.some.inj h
        exact k _ _ dX5_weigh_61
      · have h := ps_ift hc h
        refine ps_iconst C (pc := 36) (v := -1) dX5_weigh_36 (by decide) ?_
        obtain rfl := Option.some.inj h
        exact k _ _ dX5_weigh_37
def rmX5_weigh : Room := { frames := 3, cells := 0, slots := 0, locals := 61 }
theorem mX5_weigh {l : Launch} {E : ps_E} {σ : ps_S} {a1 : Int32} {a2 : Int32} {r : Int32 × ps_S}  (h : fX5_weigh a1 a2 σ = some r) : ps_MI l yX5_weigh (ps_wm yX5_weigh cX5_weigh 4 (some .int)) rmX5_weigh [.ref (e_ad E 45), .int a1, .int a2] E σ r.1 r.2 :=
  ps_metI yX5_weigh rmX5_weigh 4 (own := "PartSumsModel") r.1 (by decide +kernel) rfl (Nat.le_of_ble_eq_true rfl) rfl (fun z e1 e2 e3 e4 e5 C k => by
    subst e5
    exact tX5_weigh C (ps_Zof e1 e3 e4)  h k)
theorem hdX5_weigh : yX5_weigh.cls ≠ "java/lang/invoke/MethodHandle" ∧ yX5_weigh.cls ≠ "java/lang/invoke/VarHandle" ∧ (parseMethodDescriptor yX5_weigh.desc).map (fun d => d.parameters.length) = some 2 := by decide +kernel
def fX5_join (a1 : Int32) (a2 : Int32) (a3 : Int32) (σ : ps_S) : Option (Int32 × ps_S) :=
  (ps_let (ps_ui σ 45 0 (0 : Int32)) fun σ1 =>
  ((fX5_isThing a1 σ1).bind fun q2 =>
  (if q2 = 0 then some ((-1 : Int32), σ1)
  else ((fX5_isThing a2 σ1).bind fun q3 =>
  (if q3 = 0 then some ((-1 : Int32), σ1)
  else (if a1 = a2 then some ((-1 : Int32), σ1)
  else (ps_ck ((257 : Int32) + a1) 1289 (((fX5_has (σ1.1 47 (Int32.toNatClampNeg ((257 : Int32) + a1))) a2).bind fun q5 =>
  (if q5 = a3 then some ((-1 : Int32), σ1)
  else ((fX5_snap σ1).bind fun q6 =>
  ((fX5_joins 47 a1 a2 q6).bind fun q7 =>
  ((fX5_all q7).bind fun q8 =>
  ((fX5_pairsIn q8 q7).bind fun q9 =>
  some (q9, q7)))))))))))))))
set_option maxHeartbeats 4000000 in
set_option maxRecDepth 100000 in
theorem tX5_join {z : ps_X} (C : ps_C z cX5_join 4 "PartSumsModel") (Z : ps_Z z 2 45) {a1 : Int32} {a2 : Int32} {a3 : Int32} {σ : ps_S}  {r : Int32 × ps_S} (h : fX5_join a1 a2 a3 σ = some r) (k : ps_KI z 4 cX5_join r.1 r.2) : ps_at z 4 0 [(0, .ref (z_ad z 45)), (1, .int a1), (2, .int a2), (3, .int a3)] [] σ := by
  unfold fX5_join at h
  refine ps_aload_n C (pc := 0) dX5_join_0 0 rfl ?_
  refine ps_iconst C (pc := 1) (v := 0) dX5_join_1 (by decide) ?_
  refine pp_45_0 C (pc := 2) tw_796 dX5_join_2 h (fun σ1 h => ?_)
  refine ps_aload_n C (pc := 5) dX5_join_5 0 rfl ?_
  refine ps_iload_n C (pc := 6) dX5_join_6 1 rfl ?_
  obtain ⟨q2, hq2, h⟩ := ps_bd h
  refine ps_callVI C Z (pc := 7) (As := [.int a1]) (k0 := 45) (mX5_isThing  hq2) (Cn := "PartSumsModel") rfl tw_974 tw_976 tw_41 tw_70 tw_977 hdX5_isThing rfl rfl ⟨by decide, by decide⟩ (by decide) ps_o45 rfl rfl (Nat.le_of_ble_eq_true rfl) dX5_join_7 rfl ?_
  refine ps_if_eq C (pc := 10) 44 dX5_join_10 (by decide) (fun hc => ?_) (fun hc => ?_)
  · have h := ps_ift hc h
    refine ps_iconst C (pc := 44) (v := -1) dX5_join_44 (by decide) ?_
    obtain rfl := Option.some.inj h
    exact k _ _ dX5_join_45
  · have h := ps_iff hc h
    refine ps_aload_n C (pc := 13) dX5_join_13 0 rfl ?_
    refine ps_iload_n C (pc := 14) dX5_join_14 2 rfl ?_
    obtain ⟨q3, hq3, h⟩ := ps_bd h
    refine ps_callVI C Z (pc := 15) (As := [.int a2]) (k0 := 45) (mX5_isThing  hq3) (Cn := "PartSumsModel") rfl tw_974 tw_976 tw_41 tw_70 tw_977 hdX5_isThing rfl rfl ⟨by decide, by decide⟩ (by decide) ps_o45 rfl rfl (Nat.le_of_ble_eq_true rfl) dX5_join_15 rfl ?_
    refine ps_if_eq C (pc := 18) 44 dX5_join_18 (by decide) (fun hc => ?_) (fun hc => ?_)
    · have h := ps_ift hc h
      refine ps_iconst C (pc := 44) (v := -1) dX5_join_44 (by decide) ?_
      obtain rfl := Option.some.inj h
      exact k _ _ dX5_join_45
    · have h := ps_iff hc h
      refine ps_iload_n C (pc := 21) dX5_join_21 1 rfl ?_
      refine ps_iload_n C (pc := 22) dX5_join_22 2 rfl ?_
      refine ps_icmp_eq C (pc := 23) 44 dX5_join_23 (by decide) (fun hc => ?_) (fun hc => ?_)
      · have h := ps_ift hc h
        refine ps_iconst C (pc := 44) (v := -1) dX5_join_44 (by decide) ?_
        obtain rfl := Option.some.inj h
        exact k _ _ dX5_join_45
      · have h := ps_iff hc h
        refine ps_aload_n C (pc := 26) dX5_join_26 0 rfl ?_
        refine pg_45_10 C (pc := 27) tw_806 dX5_join_27 ?_
        refine ps_sipush C (pc := 30) (v := 257) dX5_join_30 (by decide) ?_
        refine ps_iload_n C (pc := 33) dX5_join_33 1 rfl ?_
        refine ps_iadd C (pc := 34) dX5_join_34 ?_
        obtain ⟨hi4, h⟩ := ps_ck_s h
        refine ps_iald C (pc := 35) 47 rfl rfl hi4 dX5_join_35 ?_
        refine ps_iload_n C (pc := 36) dX5_join_36 2 rfl ?_
        obtain ⟨q5, hq5, h⟩ := ps_bd h
        refine ps_callSI C Z (pc := 37) (As := [.int (σ1.1 47 (Int32.toNatClampNeg ((257 : Int32) + a1))), .int a2]) (mX5_has  hq5) tw_915 tw_916 tw_70 tw_917 hdX5_has rfl rfl ⟨by decide, by decide⟩ rfl (Nat.le_of_ble_eq_true rfl) dX5_join_37 rfl ?_
        refine ps_iload_n C (pc := 40) dX5_join_40 3 rfl ?_
        refine ps_icmp_ne C (pc := 41) 46 dX5_join_41 (by decide) (fun hc => ?_) (fun hc => ?_)
        · have h := ps_iff hc h
          refine ps_aload_n C (pc := 46) dX5_join_46 0 rfl ?_
          obtain ⟨q6, hq6, h⟩ := ps_bd h
          refine ps_callVV C Z (pc := 47) (As := []) (k0 := 45) (mX5_snap  hq6) (Cn := "PartSumsModel") rfl tw_994 tw_996 tw_44 tw_70 tw_997 hdX5_snap rfl rfl ⟨by decide, by decide⟩ (by decide) ps_o45 rfl rfl (Nat.le_of_ble_eq_true rfl) dX5_join_47 rfl ?_
          refine ps_aload_n C (pc := 50) dX5_join_50 0 rfl ?_
          refine pg_45_10 C (pc := 51) tw_806 dX5_join_51 ?_
          refine ps_iload_n C (pc := 54) dX5_join_54 1 rfl ?_
          refine ps_iload_n C (pc := 55) dX5_join_55 2 rfl ?_
          obtain ⟨q7, hq7, h⟩ := ps_bd h
          refine ps_callSV C Z (pc := 56) (As := [.ref (z_ad z 47), .int a1, .int a2]) (mX5_joins (by rfl) hq7) tw_928 tw_929 tw_70 tw_930 hdX5_joins rfl rfl ⟨by decide, by decide⟩ rfl (Nat.le_of_ble_eq_true rfl) dX5_join_56 rfl ?_
          refine ps_aload_n C (pc := 59) dX5_join_59 0 rfl ?_
          refine ps_aload_n C (pc := 60) dX5_join_60 0 rfl ?_
          obtain ⟨q8, hq8, h⟩ := ps_bd h
          refine ps_callVI C Z (pc := 61) (As := []) (k0 := 45) (mX5_all  hq8) (Cn := "PartSumsModel") rfl tw_954 tw_956 tw_38 tw_70 tw_957 hdX5_all rfl rfl ⟨by decide, by decide⟩ (by decide) ps_o45 rfl rfl (Nat.le_of_ble_eq_true rfl) dX5_join_61 rfl ?_
          obtain ⟨q9, hq9, h⟩ := ps_bd h
          refine ps_callVI C Z (pc := 64) (As := [.int q8]) (k0 := 45) (mX5_pairsIn  hq9) (Cn := "PartSumsModel") rfl tw_958 tw_960 tw_39 tw_70 tw_961 hdX5_pairsIn rfl rfl ⟨by decide, by decide⟩ (by decide) ps_o45 rfl rfl (Nat.le_of_ble_eq_true rfl) dX5_join_64 rfl ?_
          obtain rfl := Option.some.inj h
          exact k _ _ dX5_join_67
        · have h := ps_ift hc h
          refine ps_iconst C (pc := 44) (v := -1) dX5_join_44 (by decide) ?_
          obtain rfl := Option.some.inj h
          exact k _ _ dX5_join_45
def rmX5_join : Room := { frames := 2, cells := 0, slots := 0, locals := 45 }
theorem mX5_join {l : Launch} {E : ps_E} {σ : ps_S} {a1 : Int32} {a2 : Int32} {a3 : Int32} {r : Int32 × ps_S}  (h : fX5_join a1 a2 a3 σ = some r) : ps_MI l yX5_join (ps_wm yX5_join cX5_join 4 (some .int)) rmX5_join [.ref (e_ad E 45), .int a1, .int a2, .int a3] E σ r.1 r.2 :=
  ps_metI yX5_join rmX5_join 4 (own := "PartSumsModel") r.1 (by decide +kernel) rfl (Nat.le_of_ble_eq_true rfl) rfl (fun z e1 e2 e3 e4 e5 C k => by
    subst e5
    exact tX5_join C (ps_Zof e1 e3 e4)  h k)
theorem hdX5_join : yX5_join.cls ≠ "java/lang/invoke/MethodHandle" ∧ yX5_join.cls ≠ "java/lang/invoke/VarHandle" ∧ (parseMethodDescriptor yX5_join.desc).map (fun d => d.parameters.length) = some 3 := by decide +kernel
def fX5_swapped (a0 : Int32) (a1 : Int32) (a2 : Int32) : Option (Int32) :=
  ((fX5_has a0 a1).bind fun q1 =>
  ((fX5_has a0 a2).bind fun q2 =>
  (if q1 = q2 then some a0
  else some (a0 ^^^ (((1 : Int32) <<< (a1 &&& 31)) ||| ((1 : Int32) <<< (a2 &&& 31)))))))
set_option maxHeartbeats 4000000 in
set_option maxRecDepth 100000 in
theorem tX5_swapped {z : ps_X} (C : ps_C z cX5_swapped 3 "PartSumsModel") (Z : ps_Z z 1 21) {a0 : Int32} {a1 : Int32} {a2 : Int32}  {σ : ps_S} {r : Int32} (h : fX5_swapped a0 a1 a2 = some r) (k : ps_KI z 3 cX5_swapped r σ) : ps_at z 3 0 [(0, .int a0), (1, .int a1), (2, .int a2)] [] σ := by
  unfold fX5_swapped at h
  refine ps_iload_n C (pc := 0) dX5_swapped_0 0 rfl ?_
  refine ps_iload_n C (pc := 1) dX5_swapped_1 1 rfl ?_
  obtain ⟨q1, hq1, h⟩ := ps_bd h
  refine ps_callSI C Z (pc := 2) (As := [.int a0, .int a1]) (mX5_has  hq1) tw_915 tw_916 tw_70 tw_917 hdX5_has rfl rfl ⟨by decide, by decide⟩ rfl (Nat.le_of_ble_eq_true rfl) dX5_swapped_2 rfl ?_
  refine ps_iload_n C (pc := 5) dX5_swapped_5 0 rfl ?_
  refine ps_iload_n C (pc := 6) dX5_swapped_6 2 rfl ?_
  obtain ⟨q2, hq2, h⟩ := ps_bd h
  refine ps_callSI C Z (pc := 7) (As := [.int a0, .int a2]) (mX5_has  hq2) tw_915 tw_916 tw_70 tw_917 hdX5_has rfl rfl ⟨by decide, by decide⟩ rfl (Nat.le_of_ble_eq_true rfl) dX5_swapped_7 rfl ?_
  refine ps_icmp_ne C (pc := 10) 17 dX5_swapped_10 (by decide) (fun hc => ?_) (fun hc => ?_)
  · have h := ps_iff hc h
    refine ps_iload_n C (pc := 17) dX5_swapped_17 0 rfl ?_
    refine ps_iconst C (pc := 18) (v := 1) dX5_swapped_18 (by decide) ?_
    refine ps_iload_n C (pc := 19) dX5_swapped_19 1 rfl ?_
    refine ps_ishl C (pc := 20) dX5_swapped_20 ?_
    refine ps_iconst C (pc := 21) (v := 1) dX5_swapped_21 (by decide) ?_
    refine ps_iload_n C (pc := 22) dX5_swapped_22 2 rfl ?_
    refine ps_ishl C (pc := 23) dX5_swapped_23 ?_
    refine ps_ior C (pc := 24) dX5_swapped_24 ?_
    refine ps_ixor C (pc := 25) dX5_swapped_25 ?_
    obtain rfl := Option.some.inj h
    exact k _ _ dX5_swapped_26
  · have h := ps_ift hc h
    refine ps_iload_n C (pc := 13) dX5_swapped_13 0 rfl ?_
    refine ps_goto C (pc := 14) 26 dX5_swapped_14 (by decide) ?_
    obtain rfl := Option.some.inj h
    exact k _ _ dX5_swapped_26
def rmX5_swapped : Room := { frames := 1, cells := 0, slots := 0, locals := 21 }
theorem mX5_swapped {l : Launch} {E : ps_E} {σ : ps_S} {a0 : Int32} {a1 : Int32} {a2 : Int32} {r : Int32}  (h : fX5_swapped a0 a1 a2 = some r) : ps_MI l yX5_swapped (ps_wm yX5_swapped cX5_swapped 3 (some .int)) rmX5_swapped [.int a0, .int a1, .int a2] E σ r σ :=
  ps_metI yX5_swapped rmX5_swapped 3 (own := "PartSumsModel") r (by decide +kernel) rfl (Nat.le_of_ble_eq_true rfl) rfl (fun z e1 e2 e3 e4 e5 C k => by
    subst e5
    exact tX5_swapped C (ps_Zof e1 e3 e4)  h k)
theorem hdX5_swapped : yX5_swapped.cls ≠ "java/lang/invoke/MethodHandle" ∧ yX5_swapped.cls ≠ "java/lang/invoke/VarHandle" ∧ (parseMethodDescriptor yX5_swapped.desc).map (fun d => d.parameters.length) = some 3 := by decide +kernel
def pX5_swaps_S3 (z : ps_X) (a1 : Int32) (a2 : Int32) (a3 : Int32) (s : Int32 × ps_S) : Prop := ps_at z 5 3 [(0, .ref (z_ad z 45)), (1, .int a1), (2, .int a2), (3, .int a3), (4, .int s.1)] [] s.2
def qX5_swaps_S3 (z : ps_X) (a1 : Int32) (a2 : Int32) (a3 : Int32) (x : (ps_S)) : Prop := match x with | y => ps_at z 5 34 [(0, .ref (z_ad z 45)), (1, .int a1), (2, .int a2), (3, .int a3)] [] y
def fX5_swaps_S3 (a1 : Int32) (a2 : Int32) (a3 : Int32) (a4 : Int32) (σ : ps_S) : Option ((Int32 × ps_S) ⊕ ((ps_S))) :=
  ((fX5_all σ).bind fun q1 =>
  (if q1 < a4 then some (.inr σ)
  else (ps_ck (a1 + a4) 1289 ((ps_ck a4 256 ((ps_let (ps_ui σ 53 (Int32.toNatClampNeg a4) (σ.1 47 (Int32.toNatClampNeg (a1 + a4)))) fun σ4 =>
  (ps_let (a4 + (1 : Int32)) fun x5 =>
  some (.inl (x5, σ4))))))))))
set_option maxHeartbeats 4000000 in
set_option maxRecDepth 100000 in
theorem tX5_swaps_S3 {z : ps_X} (C : ps_C z cX5_swaps 5 "PartSumsModel") (Z : ps_Z z 2 43) (a1 : Int32) (a2 : Int32) (a3 : Int32)  (s : Int32 × ps_S) (r : (Int32 × ps_S) ⊕ ((ps_S))) (h : fX5_swaps_S3 a1 a2 a3 s.1 s.2 = some r) (k : ps_k (pX5_swaps_S3 z a1 a2 a3) (qX5_swaps_S3 z a1 a2 a3) r) : pX5_swaps_S3 z a1 a2 a3 s := by
  obtain ⟨a4, σ⟩ := s
  unfold fX5_swaps_S3 at h
  unfold pX5_swaps_S3
  refine ps_iload C (pc := 3) dX5_swaps_3 4 rfl ?_
  refine ps_aload_n C (pc := 5) dX5_swaps_5 0 rfl ?_
  obtain ⟨q1, hq1, h⟩ := ps_bd h
  refine ps_callVI C Z (pc := 6) (As := []) (k0 := 45) (mX5_all  hq1) (Cn := "PartSumsModel") rfl tw_954 tw_956 tw_38 tw_70 tw_957 hdX5_all rfl rfl ⟨by decide, by decide⟩ (by decide) ps_o45 rfl rfl (Nat.le_of_ble_eq_true rfl) dX5_swaps_6 rfl ?_
  refine ps_icmp_gt C (pc := 9) 34 dX5_swaps_9 (by decide) (fun hc => ?_) (fun hc => ?_)
  · have h := ps_ift hc h
    obtain rfl := Option.some.inj h
    exact ps_sub [0, 1, 2, 3] rfl k
  · have h := ps_iff hc h
    refine ps_aload_n C (pc := 12) dX5_swaps_12 0 rfl ?_
    refine pg_45_17 C (pc := 13) tw_813 dX5_swaps_13 ?_
    refine ps_iload C (pc := 16) dX5_swaps_16 4 rfl ?_
    refine ps_aload_n C (pc := 18) dX5_swaps_18 0 rfl ?_
    refine pg_45_10 C (pc := 19) tw_806 dX5_swaps_19 ?_
    refine ps_iload_n C (pc := 22) dX5_swaps_22 1 rfl ?_
    refine ps_iload C (pc := 23) dX5_swaps_23 4 rfl ?_
    refine ps_iadd C (pc := 25) dX5_swaps_25 ?_
    obtain ⟨hi2, h⟩ := ps_ck_s h
    refine ps_iald C (pc := 26) 47 rfl rfl hi2 dX5_swaps_26 ?_
    obtain ⟨hi3, h⟩ := ps_ck_s h
    refine ps_iastL C (pc := 27) 53 rfl rfl hi3 dX5_swaps_27 h (fun σ4 h => ?_)
    refine ps_iincL C (pc := 28) (zz := 1) (lw := fun x5 => [(4, .int x5), (0, .ref (z_ad z 45)), (1, .int a1), (2, .int a2), (3, .int a3)]) dX5_swaps_28 4 rfl (by decide) (by decide) (fun _ => rfl) h (fun x5 h => ?_)
    refine ps_goto C (pc := 31) 3 dX5_swaps_31 (by decide) ?_
    obtain rfl := Option.some.inj h
    exact ps_sub [1, 2, 3, 4, 0] rfl k
def pX5_swaps_S37 (z : ps_X) (a1 : Int32) (a2 : Int32) (a3 : Int32) (s : Int32 × ps_S) : Prop := ps_at z 5 37 [(0, .ref (z_ad z 45)), (1, .int a1), (2, .int a2), (3, .int a3), (4, .int s.1)] [] s.2
def qX5_swaps_S37 (z : ps_X) (a1 : Int32) (a2 : Int32) (a3 : Int32) (x : (ps_S)) : Prop := match x with | y => ps_at z 5 73 [] [] y
def fX5_swaps_S37 (a1 : Int32) (a2 : Int32) (a3 : Int32) (a4 : Int32) (σ : ps_S) : Option ((Int32 × ps_S) ⊕ ((ps_S))) :=
  ((fX5_all σ).bind fun q7 =>
  (if q7 < a4 then some (.inr σ)
  else ((fX5_swapped a4 a2 a3).bind fun q8 =>
  (ps_ck a4 256 ((ps_ck (a1 + q8) 1289 ((ps_let (ps_ui σ 47 (Int32.toNatClampNeg (a1 + q8)) (σ.1 53 (Int32.toNatClampNeg a4))) fun σ11 =>
  (ps_let (a4 + (1 : Int32)) fun x12 =>
  some (.inl (x12, σ11)))))))))))
set_option maxHeartbeats 4000000 in
set_option maxRecDepth 100000 in
theorem tX5_swaps_S37 {z : ps_X} (C : ps_C z cX5_swaps 5 "PartSumsModel") (Z : ps_Z z 2 43) (a1 : Int32) (a2 : Int32) (a3 : Int32)  (s : Int32 × ps_S) (r : (Int32 × ps_S) ⊕ ((ps_S))) (h : fX5_swaps_S37 a1 a2 a3 s.1 s.2 = some r) (k : ps_k (pX5_swaps_S37 z a1 a2 a3) (qX5_swaps_S37 z a1 a2 a3) r) : pX5_swaps_S37 z a1 a2 a3 s := by
  obtain ⟨a4, σ⟩ := s
  unfold fX5_swaps_S37 at h
  unfold pX5_swaps_S37
  refine ps_iload C (pc := 37) dX5_swaps_37 4 rfl ?_
  refine ps_aload_n C (pc := 39) dX5_swaps_39 0 rfl ?_
  obtain ⟨q7, hq7, h⟩ := ps_bd h
  refine ps_callVI C Z (pc := 40) (As := []) (k0 := 45) (mX5_all  hq7) (Cn := "PartSumsModel") rfl tw_954 tw_956 tw_38 tw_70 tw_957 hdX5_all rfl rfl ⟨by decide, by decide⟩ (by decide) ps_o45 rfl rfl (Nat.le_of_ble_eq_true rfl) dX5_swaps_40 rfl ?_
  refine ps_icmp_gt C (pc := 43) 73 dX5_swaps_43 (by decide) (fun hc => ?_) (fun hc => ?_)
  · have h := ps_ift hc h
    obtain rfl := Option.some.inj h
    exact ps_sub [] rfl k
  · have h := ps_iff hc h
    refine ps_aload_n C (pc := 46) dX5_swaps_46 0 rfl ?_
    refine pg_45_10 C (pc := 47) tw_806 dX5_swaps_47 ?_
    refine ps_iload_n C (pc := 50) dX5_swaps_50 1 rfl ?_
    refine ps_iload C (pc := 51) dX5_swaps_51 4 rfl ?_
    refine ps_iload_n C (pc := 53) dX5_swaps_53 2 rfl ?_
    refine ps_iload_n C (pc := 54) dX5_swaps_54 3 rfl ?_
    obtain ⟨q8, hq8, h⟩ := ps_bd h
    refine ps_callSI C Z (pc := 55) (As := [.int a4, .int a2, .int a3]) (mX5_swapped  hq8) tw_1155 tw_1156 tw_70 tw_1157 hdX5_swapped rfl rfl ⟨by decide, by decide⟩ rfl (Nat.le_of_ble_eq_true rfl) dX5_swaps_55 rfl ?_
    refine ps_iadd C (pc := 58) dX5_swaps_58 ?_
    refine ps_aload_n C (pc := 59) dX5_swaps_59 0 rfl ?_
    refine pg_45_17 C (pc := 60) tw_813 dX5_swaps_60 ?_
    refine ps_iload C (pc := 63) dX5_swaps_63 4 rfl ?_
    obtain ⟨hi9, h⟩ := ps_ck_s h
    refine ps_iald C (pc := 65) 53 rfl rfl hi9 dX5_swaps_65 ?_
    obtain ⟨hi10, h⟩ := ps_ck_s h
    refine ps_iastL C (pc := 66) 47 rfl rfl hi10 dX5_swaps_66 h (fun σ11 h => ?_)
    refine ps_iincL C (pc := 67) (zz := 1) (lw := fun x12 => [(4, .int x12), (0, .ref (z_ad z 45)), (1, .int a1), (2, .int a2), (3, .int a3)]) dX5_swaps_67 4 rfl (by decide) (by decide) (fun _ => rfl) h (fun x12 h => ?_)
    refine ps_goto C (pc := 70) 37 dX5_swaps_70 (by decide) ?_
    obtain rfl := Option.some.inj h
    exact ps_sub [1, 2, 3, 4, 0] rfl k
def fX5_swaps (a1 : Int32) (a2 : Int32) (a3 : Int32) (σ : ps_S) : Option (ps_S) :=
  ((ps_lp (fun s => fX5_swaps_S3 a1 a2 a3 s.1 s.2) 100000 ((0 : Int32), σ)).bind fun e6 =>
  ((ps_lp (fun s => fX5_swaps_S37 a1 a2 a3 s.1 s.2) 100000 ((0 : Int32), e6)).bind fun e13 =>
  some e13))
set_option maxHeartbeats 4000000 in
set_option maxRecDepth 100000 in
theorem tX5_swaps {z : ps_X} (C : ps_C z cX5_swaps 5 "PartSumsModel") (Z : ps_Z z 2 43) {a1 : Int32} {a2 : Int32} {a3 : Int32} {σ : ps_S}  {r : ps_S} (h : fX5_swaps a1 a2 a3 σ = some r) (k : ps_KV z 5 cX5_swaps r) : ps_at z 5 0 [(0, .ref (z_ad z 45)), (1, .int a1), (2, .int a2), (3, .int a3)] [] σ := by
  unfold fX5_swaps at h
  refine ps_iconst C (pc := 0) (v := 0) dX5_swaps_0 (by decide) ?_
  refine ps_istore C (pc := 1) (lv' := [(4, .int (0 : Int32)), (0, .ref (z_ad z 45)), (1, .int a1), (2, .int a2), (3, .int a3)]) dX5_swaps_1 (by decide) rfl ?_
  obtain ⟨e6, he6, h⟩ := ps_bd h
  refine ps_sub [1, 2, 3, 4, 0] rfl ?_
  refine ps_loop (P := pX5_swaps_S3 z a1 a2 a3) (K := qX5_swaps_S3 z a1 a2 a3) (fun s r h k => tX5_swaps_S3 C Z a1 a2 a3  s r h k) _ _ _ he6 ?_
  unfold qX5_swaps_S3
  refine ps_iconst C (pc := 34) (v := 0) dX5_swaps_34 (by decide) ?_
  refine ps_istore C (pc := 35) (lv' := [(4, .int (0 : Int32)), (0, .ref (z_ad z 45)), (1, .int a1), (2, .int a2), (3, .int a3)]) dX5_swaps_35 (by decide) rfl ?_
  obtain ⟨e13, he13, h⟩ := ps_bd h
  refine ps_sub [1, 2, 3, 4, 0] rfl ?_
  refine ps_loop (P := pX5_swaps_S37 z a1 a2 a3) (K := qX5_swaps_S37 z a1 a2 a3) (fun s r h k => tX5_swaps_S37 C Z a1 a2 a3  s r h k) _ _ _ he13 ?_
  unfold qX5_swaps_S37
  obtain rfl := Option.some.inj h
  exact k _ _ dX5_swaps_73
def rmX5_swaps : Room := { frames := 2, cells := 0, slots := 0, locals := 43 }
theorem mX5_swaps {l : Launch} {E : ps_E} {σ : ps_S} {a1 : Int32} {a2 : Int32} {a3 : Int32} {r : ps_S}  (h : fX5_swaps a1 a2 a3 σ = some r) : ps_MV l yX5_swaps (ps_wm yX5_swaps cX5_swaps 5 none) rmX5_swaps [.ref (e_ad E 45), .int a1, .int a2, .int a3] E σ r :=
  ps_metV yX5_swaps rmX5_swaps 5 (own := "PartSumsModel")  (by decide +kernel) rfl (Nat.le_of_ble_eq_true rfl) rfl (fun z e1 e2 e3 e4 e5 C k => by
    subst e5
    exact tX5_swaps C (ps_Zof e1 e3 e4)  h k)
theorem hdX5_swaps : yX5_swaps.cls ≠ "java/lang/invoke/MethodHandle" ∧ yX5_swaps.cls ≠ "java/lang/invoke/VarHandle" ∧ (parseMethodDescriptor yX5_swaps.desc).map (fun d => d.parameters.length) = some 3 := by decide +kernel
def pX5_name_S37 (z : ps_X) (a1 : Int32) (a2 : Int32) (σ : ps_S) (s : Int32 × Int32) : Prop := ps_at z 5 37 [(0, .ref (z_ad z 45)), (1, .int a1), (2, .int a2), (3, .int s.1), (4, .int s.2)] [] σ
def qX5_name_S37 (z : ps_X) (a1 : Int32) (a2 : Int32) (σ : ps_S) (x : (Int32)) : Prop := match x with | y => ps_at z 5 79 [(0, .ref (z_ad z 45)), (1, .int a1), (2, .int a2), (3, .int y)] [] σ
def fX5_name_J73 (a1 : Int32) (a2 : Int32) (a3 : Int32) (a4 : Int32) (σ : ps_S) : Option ((Int32 × Int32) ⊕ ((Int32))) :=
  (ps_let (a4 + (1 : Int32)) fun x7 =>
  some (.inl (a3, x7)))
set_option maxHeartbeats 4000000 in
set_option maxRecDepth 100000 in
theorem tX5_name_J73 {z : ps_X} (C : ps_C z cX5_name 5 "PartSumsModel") (Z : ps_Z z 3 67) {a1 : Int32} {a2 : Int32} {a3 : Int32} {a4 : Int32} {σ : ps_S}  {r : (Int32 × Int32) ⊕ ((Int32))} (h : fX5_name_J73 a1 a2 a3 a4 σ = some r) (k : ps_k (pX5_name_S37 z a1 a2 σ) (qX5_name_S37 z a1 a2 σ) r) : ps_at z 5 73 [(0, .ref (z_ad z 45)), (1, .int a1), (2, .int a2), (3, .int a3), (4, .int a4)] [] σ := by
  unfold fX5_name_J73 at h
  refine ps_iincL C (pc := 73) (zz := 1) (lw := fun x7 => [(4, .int x7), (0, .ref (z_ad z 45)), (1, .int a1), (2, .int a2), (3, .int a3)]) dX5_name_73 4 rfl (by decide) (by decide) (fun _ => rfl) h (fun x7 h => ?_)
  refine ps_goto C (pc := 76) 37 dX5_name_76 (by decide) ?_
  obtain rfl := Option.some.inj h
  exact ps_sub [1, 2, 3, 4, 0] rfl k
def fX5_name_S37 (a1 : Int32) (a2 : Int32) (σ : ps_S) (a3 : Int32) (a4 : Int32) : Option ((Int32 × Int32) ⊕ ((Int32))) :=
  ((fX5_all σ).bind fun q5 =>
  (if q5 < a4 then some (.inr a3)
  else ((fX5_isTold a4 σ).bind fun q6 =>
  (if q6 = 0 then fX5_name_J73 a1 a2 a3 a4 σ
  else ((fX5_has a4 a1).bind fun q8 =>
  ((fX5_has a4 a2).bind fun q9 =>
  (if q8 = q9 then fX5_name_J73 a1 a2 a3 a4 σ
  else (ps_let (a3 + (1 : Int32)) fun x10 =>
  fX5_name_J73 a1 a2 x10 a4 σ))))))))
set_option maxHeartbeats 4000000 in
set_option maxRecDepth 100000 in
theorem tX5_name_S37 {z : ps_X} (C : ps_C z cX5_name 5 "PartSumsModel") (Z : ps_Z z 3 67) (a1 : Int32) (a2 : Int32) (σ : ps_S)  (s : Int32 × Int32) (r : (Int32 × Int32) ⊕ ((Int32))) (h : fX5_name_S37 a1 a2 σ s.1 s.2 = some r) (k : ps_k (pX5_name_S37 z a1 a2 σ) (qX5_name_S37 z a1 a2 σ) r) : pX5_name_S37 z a1 a2 σ s := by
  obtain ⟨a3, a4⟩ := s
  unfold fX5_name_S37 at h
  unfold pX5_name_S37
  refine ps_iload C (pc := 37) dX5_name_37 4 rfl ?_
  refine ps_aload_n C (pc := 39) dX5_name_39 0 rfl ?_
  obtain ⟨q5, hq5, h⟩ := ps_bd h
  refine ps_callVI C Z (pc := 40) (As := []) (k0 := 45) (mX5_all  hq5) (Cn := "PartSumsModel") rfl tw_954 tw_956 tw_38 tw_70 tw_957 hdX5_all rfl rfl ⟨by decide, by decide⟩ (by decide) ps_o45 rfl rfl (Nat.le_of_ble_eq_true rfl) dX5_name_40 rfl ?_
  refine ps_icmp_gt C (pc := 43) 79 dX5_name_43 (by decide) (fun hc => ?_) (fun hc => ?_)
  · have h := ps_ift hc h
    obtain rfl := Option.some.inj h
    exact ps_sub [0, 1, 2, 3] rfl k
  · have h := ps_iff hc h
    refine ps_aload_n C (pc := 46) dX5_name_46 0 rfl ?_
    refine ps_iload C (pc := 47) dX5_name_47 4 rfl ?_
    obtain ⟨q6, hq6, h⟩ := ps_bd h
    refine ps_callVI C Z (pc := 49) (As := [.int a4]) (k0 := 45) (mX5_isTold  hq6) (Cn := "PartSumsModel") rfl tw_1081 tw_1083 tw_54 tw_70 tw_1084 hdX5_isTold rfl rfl ⟨by decide, by decide⟩ (by decide) ps_o45 rfl rfl (Nat.le_of_ble_eq_true rfl) dX5_name_49 rfl ?_
    refine ps_if_eq C (pc := 52) 73 dX5_name_52 (by decide) (fun hc => ?_) (fun hc => ?_)
    · have h := ps_ift hc h
      exact ps_sub [0, 1, 2, 3, 4] rfl (tX5_name_J73 C Z  h k)
    · have h := ps_iff hc h
      refine ps_iload C (pc := 55) dX5_name_55 4 rfl ?_
      refine ps_iload_n C (pc := 57) dX5_name_57 1 rfl ?_
      obtain ⟨q8, hq8, h⟩ := ps_bd h
      refine ps_callSI C Z (pc := 58) (As := [.int a4, .int a1]) (mX5_has  hq8) tw_915 tw_916 tw_70 tw_917 hdX5_has rfl rfl ⟨by decide, by decide⟩ rfl (Nat.le_of_ble_eq_true rfl) dX5_name_58 rfl ?_
      refine ps_iload C (pc := 61) dX5_name_61 4 rfl ?_
      refine ps_iload_n C (pc := 63) dX5_name_63 2 rfl ?_
      obtain ⟨q9, hq9, h⟩ := ps_bd h
      refine ps_callSI C Z (pc := 64) (As := [.int a4, .int a2]) (mX5_has  hq9) tw_915 tw_916 tw_70 tw_917 hdX5_has rfl rfl ⟨by decide, by decide⟩ rfl (Nat.le_of_ble_eq_true rfl) dX5_name_64 rfl ?_
      refine ps_icmp_eq C (pc := 67) 73 dX5_name_67 (by decide) (fun hc => ?_) (fun hc => ?_)
      · have h := ps_ift hc h
        exact ps_sub [0, 1, 2, 3, 4] rfl (tX5_name_J73 C Z  h k)
      · have h := ps_iff hc h
        refine ps_iincL C (pc := 70) (zz := 1) (lw := fun x10 => [(3, .int x10), (0, .ref (z_ad z 45)), (1, .int a1), (2, .int a2), (4, .int a4)]) dX5_name_70 3 rfl (by decide) (by decide) (fun _ => rfl) h (fun x10 h => ?_)
        exact ps_sub [1, 2, 3, 0, 4] rfl (tX5_name_J73 C Z  h k)
def pX5_name_S89 (z : ps_X) (a1 : Int32) (a2 : Int32) (a3 : Int32) (s : Int32 × ps_S) : Prop := ps_at z 5 89 [(0, .ref (z_ad z 45)), (1, .int a1), (2, .int a2), (3, .int a3), (4, .int s.1)] [] s.2
def qX5_name_S89 (z : ps_X) (a1 : Int32) (a2 : Int32) (a3 : Int32) (x : (ps_S)) : Prop := match x with | y => ps_at z 5 117 [(0, .ref (z_ad z 45)), (1, .int a1), (2, .int a2), (3, .int a3)] [] y
def fX5_name_S89 (a1 : Int32) (a2 : Int32) (a3 : Int32) (a4 : Int32) (σ : ps_S) : Option ((Int32 × ps_S) ⊕ ((ps_S))) :=
  (if (4 : Int32) ≤ a4 then some (.inr σ)
  else ((fX5_swaps ((265 : Int32) + ((256 : Int32) * a4)) a1 a2 σ).bind fun q13 =>
  (ps_let (a4 + (1 : Int32)) fun x14 =>
  some (.inl (x14, q13)))))
set_option maxHeartbeats 4000000 in
set_option maxRecDepth 100000 in
theorem tX5_name_S89 {z : ps_X} (C : ps_C z cX5_name 5 "PartSumsModel") (Z : ps_Z z 3 67) (a1 : Int32) (a2 : Int32) (a3 : Int32)  (s : Int32 × ps_S) (r : (Int32 × ps_S) ⊕ ((ps_S))) (h : fX5_name_S89 a1 a2 a3 s.1 s.2 = some r) (k : ps_k (pX5_name_S89 z a1 a2 a3) (qX5_name_S89 z a1 a2 a3) r) : pX5_name_S89 z a1 a2 a3 s := by
  obtain ⟨a4, σ⟩ := s
  unfold fX5_name_S89 at h
  unfold pX5_name_S89
  refine ps_iload C (pc := 89) dX5_name_89 4 rfl ?_
  refine ps_iconst C (pc := 91) (v := 4) dX5_name_91 (by decide) ?_
  refine ps_icmp_ge C (pc := 92) 117 dX5_name_92 (by decide) (fun hc => ?_) (fun hc => ?_)
  · have h := ps_ift hc h
    obtain rfl := Option.some.inj h
    exact ps_sub [0, 1, 2, 3] rfl k
  · have h := ps_iff hc h
    refine ps_aload_n C (pc := 95) dX5_name_95 0 rfl ?_
    refine ps_sipush C (pc := 96) (v := 265) dX5_name_96 (by decide) ?_
    refine ps_sipush C (pc := 99) (v := 256) dX5_name_99 (by decide) ?_
    refine ps_iload C (pc := 102) dX5_name_102 4 rfl ?_
    refine ps_imul C (pc := 104) dX5_name_104 ?_
    refine ps_iadd C (pc := 105) dX5_name_105 ?_
    refine ps_iload_n C (pc := 106) dX5_name_106 1 rfl ?_
    refine ps_iload_n C (pc := 107) dX5_name_107 2 rfl ?_
    obtain ⟨q13, hq13, h⟩ := ps_bd h
    refine ps_callVV C Z (pc := 108) (As := [.int ((265 : Int32) + ((256 : Int32) * a4)), .int a1, .int a2]) (k0 := 45) (mX5_swaps  hq13) (Cn := "PartSumsModel") rfl tw_1151 tw_1153 tw_61 tw_70 tw_1154 hdX5_swaps rfl rfl ⟨by decide, by decide⟩ (by decide) ps_o45 rfl rfl (Nat.le_of_ble_eq_true rfl) dX5_name_108 rfl ?_
    refine ps_iincL C (pc := 111) (zz := 1) (lw := fun x14 => [(4, .int x14), (0, .ref (z_ad z 45)), (1, .int a1), (2, .int a2), (3, .int a3)]) dX5_name_111 4 rfl (by decide) (by decide) (fun _ => rfl) h (fun x14 h => ?_)
    refine ps_goto C (pc := 114) 89 dX5_name_114 (by decide) ?_
    obtain rfl := Option.some.inj h
    exact ps_sub [1, 2, 3, 4, 0] rfl k
def pX5_name_S120 (z : ps_X) (a1 : Int32) (a2 : Int32) (a3 : Int32) (s : Int32 × ps_S) : Prop := ps_at z 5 120 [(0, .ref (z_ad z 45)), (1, .int a1), (2, .int a2), (3, .int a3), (4, .int s.1)] [] s.2
def qX5_name_S120 (z : ps_X) (a1 : Int32) (a2 : Int32) (a3 : Int32) (x : (ps_S)) : Prop := match x with | y => ps_at z 5 153 [(0, .ref (z_ad z 45)), (1, .int a1), (2, .int a2), (3, .int a3)] [] y
def fX5_name_S120 (a1 : Int32) (a2 : Int32) (a3 : Int32) (a4 : Int32) (σ : ps_S) : Option ((Int32 × ps_S) ⊕ ((ps_S))) :=
  ((fX5_things σ).bind fun q16 =>
  (if q16 ≤ a4 then some (.inr σ)
  else (ps_ck ((257 : Int32) + a4) 1289 ((ps_ck a4 256 ((ps_let (ps_ui σ 53 (Int32.toNatClampNeg a4) (σ.1 47 (Int32.toNatClampNeg ((257 : Int32) + a4)))) fun σ19 =>
  (ps_let (a4 + (1 : Int32)) fun x20 =>
  some (.inl (x20, σ19))))))))))
set_option maxHeartbeats 4000000 in
set_option maxRecDepth 100000 in
theorem tX5_name_S120 {z : ps_X} (C : ps_C z cX5_name 5 "PartSumsModel") (Z : ps_Z z 3 67) (a1 : Int32) (a2 : Int32) (a3 : Int32)  (s : Int32 × ps_S) (r : (Int32 × ps_S) ⊕ ((ps_S))) (h : fX5_name_S120 a1 a2 a3 s.1 s.2 = some r) (k : ps_k (pX5_name_S120 z a1 a2 a3) (qX5_name_S120 z a1 a2 a3) r) : pX5_name_S120 z a1 a2 a3 s := by
  obtain ⟨a4, σ⟩ := s
  unfold fX5_name_S120 at h
  unfold pX5_name_S120
  refine ps_iload C (pc := 120) dX5_name_120 4 rfl ?_
  refine ps_aload_n C (pc := 122) dX5_name_122 0 rfl ?_
  obtain ⟨q16, hq16, h⟩ := ps_bd h
  refine ps_callVI C Z (pc := 123) (As := []) (k0 := 45) (mX5_things  hq16) (Cn := "PartSumsModel") rfl tw_946 tw_948 tw_36 tw_70 tw_949 hdX5_things rfl rfl ⟨by decide, by decide⟩ (by decide) ps_o45 rfl rfl (Nat.le_of_ble_eq_true rfl) dX5_name_123 rfl ?_
  refine ps_icmp_ge C (pc := 126) 153 dX5_name_126 (by decide) (fun hc => ?_) (fun hc => ?_)
  · have h := ps_ift hc h
    obtain rfl := Option.some.inj h
    exact ps_sub [0, 1, 2, 3] rfl k
  · have h := ps_iff hc h
    refine ps_aload_n C (pc := 129) dX5_name_129 0 rfl ?_
    refine pg_45_17 C (pc := 130) tw_813 dX5_name_130 ?_
    refine ps_iload C (pc := 133) dX5_name_133 4 rfl ?_
    refine ps_aload_n C (pc := 135) dX5_name_135 0 rfl ?_
    refine pg_45_10 C (pc := 136) tw_806 dX5_name_136 ?_
    refine ps_sipush C (pc := 139) (v := 257) dX5_name_139 (by decide) ?_
    refine ps_iload C (pc := 142) dX5_name_142 4 rfl ?_
    refine ps_iadd C (pc := 144) dX5_name_144 ?_
    obtain ⟨hi17, h⟩ := ps_ck_s h
    refine ps_iald C (pc := 145) 47 rfl rfl hi17 dX5_name_145 ?_
    obtain ⟨hi18, h⟩ := ps_ck_s h
    refine ps_iastL C (pc := 146) 53 rfl rfl hi18 dX5_name_146 h (fun σ19 h => ?_)
    refine ps_iincL C (pc := 147) (zz := 1) (lw := fun x20 => [(4, .int x20), (0, .ref (z_ad z 45)), (1, .int a1), (2, .int a2), (3, .int a3)]) dX5_name_147 4 rfl (by decide) (by decide) (fun _ => rfl) h (fun x20 h => ?_)
    refine ps_goto C (pc := 150) 120 dX5_name_150 (by decide) ?_
    obtain rfl := Option.some.inj h
    exact ps_sub [1, 2, 3, 4, 0] rfl k
def pX5_name_S156 (z : ps_X) (a1 : Int32) (a2 : Int32) (a3 : Int32) (s : Int32 × ps_S) : Prop := ps_at z 5 156 [(0, .ref (z_ad z 45)), (1, .int a1), (2, .int a2), (3, .int a3), (4, .int s.1)] [] s.2
def qX5_name_S156 (z : ps_X) (a1 : Int32) (a2 : Int32) (a3 : Int32) (x : (ps_S)) : Prop := match x with | y => ps_at z 5 214 [(3, .int a3)] [] y
def fX5_name_J194 (a1 : Int32) (a2 : Int32) (a3 : Int32) (a4 : Int32) (u0 : Int32) (u1 : Int32) (σ : ps_S) : Option ((Int32 × ps_S) ⊕ ((ps_S))) :=
  (ps_ck a4 256 (((fX5_swapped (σ.1 53 (Int32.toNatClampNeg a4)) a1 a2).bind fun q24 =>
  (ps_ck (u1 + u0) 1289 ((ps_let (ps_ui σ 47 (Int32.toNatClampNeg (u1 + u0)) q24) fun σ26 =>
  (ps_let (a4 + (1 : Int32)) fun x27 =>
  some (.inl (x27, σ26)))))))))
set_option maxHeartbeats 4000000 in
set_option maxRecDepth 100000 in
theorem tX5_name_J194 {z : ps_X} (C : ps_C z cX5_name 5 "PartSumsModel") (Z : ps_Z z 3 67) {a1 : Int32} {a2 : Int32} {a3 : Int32} {a4 : Int32} {u0 : Int32} {u1 : Int32} {σ : ps_S}  {r : (Int32 × ps_S) ⊕ ((ps_S))} (h : fX5_name_J194 a1 a2 a3 a4 u0 u1 σ = some r) (k : ps_k (pX5_name_S156 z a1 a2 a3) (qX5_name_S156 z a1 a2 a3) r) : ps_at z 5 194 [(0, .ref (z_ad z 45)), (1, .int a1), (2, .int a2), (3, .int a3), (4, .int a4)] [.int u0, .int u1, .ref (z_ad z 47)] σ := by
  unfold fX5_name_J194 at h
  refine ps_iadd C (pc := 194) dX5_name_194 ?_
  refine ps_aload_n C (pc := 195) dX5_name_195 0 rfl ?_
  refine pg_45_17 C (pc := 196) tw_813 dX5_name_196 ?_
  refine ps_iload C (pc := 199) dX5_name_199 4 rfl ?_
  obtain ⟨hi23, h⟩ := ps_ck_s h
  refine ps_iald C (pc := 201) 53 rfl rfl hi23 dX5_name_201 ?_
  refine ps_iload_n C (pc := 202) dX5_name_202 1 rfl ?_
  refine ps_iload_n C (pc := 203) dX5_name_203 2 rfl ?_
  obtain ⟨q24, hq24, h⟩ := ps_bd h
  refine ps_callSI C Z (pc := 204) (As := [.int (σ.1 53 (Int32.toNatClampNeg a4)), .int a1, .int a2]) (mX5_swapped  hq24) tw_1155 tw_1156 tw_70 tw_1157 hdX5_swapped rfl rfl ⟨by decide, by decide⟩ rfl (Nat.le_of_ble_eq_true rfl) dX5_name_204 rfl ?_
  obtain ⟨hi25, h⟩ := ps_ck_s h
  refine ps_iastL C (pc := 207) 47 rfl rfl hi25 dX5_name_207 h (fun σ26 h => ?_)
  refine ps_iincL C (pc := 208) (zz := 1) (lw := fun x27 => [(4, .int x27), (0, .ref (z_ad z 45)), (1, .int a1), (2, .int a2), (3, .int a3)]) dX5_name_208 4 rfl (by decide) (by decide) (fun _ => rfl) h (fun x27 h => ?_)
  refine ps_goto C (pc := 211) 156 dX5_name_211 (by decide) ?_
  obtain rfl := Option.some.inj h
  exact ps_sub [1, 2, 3, 4, 0] rfl k
def fX5_name_S156 (a1 : Int32) (a2 : Int32) (a3 : Int32) (a4 : Int32) (σ : ps_S) : Option ((Int32 × ps_S) ⊕ ((ps_S))) :=
  ((fX5_things σ).bind fun q22 =>
  (if q22 ≤ a4 then some (.inr σ)
  else (if a4 = a1 then fX5_name_J194 a1 a2 a3 a4 a2 (257 : Int32) σ
  else (if a4 = a2 then fX5_name_J194 a1 a2 a3 a4 a1 (257 : Int32) σ
  else fX5_name_J194 a1 a2 a3 a4 a4 (257 : Int32) σ))))
set_option maxHeartbeats 4000000 in
set_option maxRecDepth 100000 in
theorem tX5_name_S156 {z : ps_X} (C : ps_C z cX5_name 5 "PartSumsModel") (Z : ps_Z z 3 67) (a1 : Int32) (a2 : Int32) (a3 : Int32)  (s : Int32 × ps_S) (r : (Int32 × ps_S) ⊕ ((ps_S))) (h : fX5_name_S156 a1 a2 a3 s.1 s.2 = some r) (k : ps_k (pX5_name_S156 z a1 a2 a3) (qX5_name_S156 z a1 a2 a3) r) : pX5_name_S156 z a1 a2 a3 s := by
  obtain ⟨a4, σ⟩ := s
  unfold fX5_name_S156 at h
  unfold pX5_name_S156
  refine ps_iload C (pc := 156) dX5_name_156 4 rfl ?_
  refine ps_aload_n C (pc := 158) dX5_name_158 0 rfl ?_
  obtain ⟨q22, hq22, h⟩ := ps_bd h
  refine ps_callVI C Z (pc := 159) (As := []) (k0 := 45) (mX5_things  hq22) (Cn := "PartSumsModel") rfl tw_946 tw_948 tw_36 tw_70 tw_949 hdX5_things rfl rfl ⟨by decide, by decide⟩ (by decide) ps_o45 rfl rfl (Nat.le_of_ble_eq_true rfl) dX5_name_159 rfl ?_
  refine ps_icmp_ge C (pc := 162) 214 dX5_name_162 (by decide) (fun hc => ?_) (fun hc => ?_)
  · have h := ps_ift hc h
    obtain rfl := Option.some.inj h
    exact ps_sub [3] rfl k
  · have h := ps_iff hc h
    refine ps_aload_n C (pc := 165) dX5_name_165 0 rfl ?_
    refine pg_45_10 C (pc := 166) tw_806 dX5_name_166 ?_
    refine ps_sipush C (pc := 169) (v := 257) dX5_name_169 (by decide) ?_
    refine ps_iload C (pc := 172) dX5_name_172 4 rfl ?_
    refine ps_iload_n C (pc := 174) dX5_name_174 1 rfl ?_
    refine ps_icmp_ne C (pc := 175) 182 dX5_name_175 (by decide) (fun hc => ?_) (fun hc => ?_)
    · have h := ps_iff hc h
      refine ps_iload C (pc := 182) dX5_name_182 4 rfl ?_
      refine ps_iload_n C (pc := 184) dX5_name_184 2 rfl ?_
      refine ps_icmp_ne C (pc := 185) 192 dX5_name_185 (by decide) (fun hc => ?_) (fun hc => ?_)
      · have h := ps_iff hc h
        refine ps_iload C (pc := 192) dX5_name_192 4 rfl ?_
        exact ps_sub [0, 1, 2, 3, 4] rfl (tX5_name_J194 C Z  h k)
      · have h := ps_ift hc h
        refine ps_iload_n C (pc := 188) dX5_name_188 1 rfl ?_
        refine ps_goto C (pc := 189) 194 dX5_name_189 (by decide) ?_
        exact ps_sub [0, 1, 2, 3, 4] rfl (tX5_name_J194 C Z  h k)
    · have h := ps_ift hc h
      refine ps_iload_n C (pc := 178) dX5_name_178 2 rfl ?_
      refine ps_goto C (pc := 179) 194 dX5_name_179 (by decide) ?_
      exact ps_sub [0, 1, 2, 3, 4] rfl (tX5_name_J194 C Z  h k)
def fX5_name (a1 : Int32) (a2 : Int32) (σ : ps_S) : Option (Int32 × ps_S) :=
  (ps_let (ps_ui σ 45 0 (0 : Int32)) fun σ1 =>
  ((fX5_isThing a1 σ1).bind fun q2 =>
  (if q2 = 0 then some ((-1 : Int32), σ1)
  else ((fX5_isThing a2 σ1).bind fun q3 =>
  (if q3 = 0 then some ((-1 : Int32), σ1)
  else (if a1 = a2 then some ((-1 : Int32), σ1)
  else ((fX5_snap σ1).bind fun q4 =>
  ((ps_lp (fun s => fX5_name_S37 a1 a2 q4 s.1 s.2) 100000 ((0 : Int32), (0 : Int32))).bind fun e11 =>
  ((fX5_swaps (1 : Int32) a1 a2 q4).bind fun q12 =>
  ((ps_lp (fun s => fX5_name_S89 a1 a2 e11 s.1 s.2) 100000 ((0 : Int32), q12)).bind fun e15 =>
  ((ps_lp (fun s => fX5_name_S120 a1 a2 e11 s.1 s.2) 100000 ((0 : Int32), e15)).bind fun e21 =>
  ((ps_lp (fun s => fX5_name_S156 a1 a2 e11 s.1 s.2) 100000 ((0 : Int32), e21)).bind fun e28 =>
  some (e11, e28)))))))))))))
set_option maxHeartbeats 4000000 in
set_option maxRecDepth 100000 in
theorem tX5_name {z : ps_X} (C : ps_C z cX5_name 5 "PartSumsModel") (Z : ps_Z z 3 67) {a1 : Int32} {a2 : Int32} {σ : ps_S}  {r : Int32 × ps_S} (h : fX5_name a1 a2 σ = some r) (k : ps_KI z 5 cX5_name r.1 r.2) : ps_at z 5 0 [(0, .ref (z_ad z 45)), (1, .int a1), (2, .int a2)] [] σ := by
  unfold fX5_name at h
  refine ps_aload_n C (pc := 0) dX5_name_0 0 rfl ?_
  refine ps_iconst C (pc := 1) (v := 0) dX5_name_1 (by decide) ?_
  refine pp_45_0 C (pc := 2) tw_796 dX5_name_2 h (fun σ1 h => ?_)
  refine ps_aload_n C (pc := 5) dX5_name_5 0 rfl ?_
  refine ps_iload_n C (pc := 6) dX5_name_6 1 rfl ?_
  obtain ⟨q2, hq2, h⟩ := ps_bd h
  refine ps_callVI C Z (pc := 7) (As := [.int a1]) (k0 := 45) (mX5_isThing  hq2) (Cn := "PartSumsModel") rfl tw_974 tw_976 tw_41 tw_70 tw_977 hdX5_isThing rfl rfl ⟨by decide, by decide⟩ (by decide) ps_o45 rfl rfl (Nat.le_of_ble_eq_true rfl) dX5_name_7 rfl ?_
  refine ps_if_eq C (pc := 10) 26 dX5_name_10 (by decide) (fun hc => ?_) (fun hc => ?_)
  · have h := ps_ift hc h
    refine ps_iconst C (pc := 26) (v := -1) dX5_name_26 (by decide) ?_
    obtain rfl := Option.some.inj h
    exact k _ _ dX5_name_27
  · have h := ps_iff hc h
    refine ps_aload_n C (pc := 13) dX5_name_13 0 rfl ?_
    refine ps_iload_n C (pc := 14) dX5_name_14 2 rfl ?_
    obtain ⟨q3, hq3, h⟩ := ps_bd h
    refine ps_callVI C Z (pc := 15) (As := [.int a2]) (k0 := 45) (mX5_isThing  hq3) (Cn := "PartSumsModel") rfl tw_974 tw_976 tw_41 tw_70 tw_977 hdX5_isThing rfl rfl ⟨by decide, by decide⟩ (by decide) ps_o45 rfl rfl (Nat.le_of_ble_eq_true rfl) dX5_name_15 rfl ?_
    refine ps_if_eq C (pc := 18) 26 dX5_name_18 (by decide) (fun hc => ?_) (fun hc => ?_)
    · have h := ps_ift hc h
      refine ps_iconst C (pc := 26) (v := -1) dX5_name_26 (by decide) ?_
      obtain rfl := Option.some.inj h
      exact k _ _ dX5_name_27
    · have h := ps_iff hc h
      refine ps_iload_n C (pc := 21) dX5_name_21 1 rfl ?_
      refine ps_iload_n C (pc := 22) dX5_name_22 2 rfl ?_
      refine ps_icmp_ne C (pc := 23) 28 dX5_name_23 (by decide) (fun hc => ?_) (fun hc => ?_)
      · have h := ps_iff hc h
        refine ps_aload_n C (pc := 28) dX5_name_28 0 rfl ?_
        obtain ⟨q4, hq4, h⟩ := ps_bd h
        refine ps_callVV C Z (pc := 29) (As := []) (k0 := 45) (mX5_snap  hq4) (Cn := "PartSumsModel") rfl tw_994 tw_996 tw_44 tw_70 tw_997 hdX5_snap rfl rfl ⟨by decide, by decide⟩ (by decide) ps_o45 rfl rfl (Nat.le_of_ble_eq_true rfl) dX5_name_29 rfl ?_
        refine ps_iconst C (pc := 32) (v := 0) dX5_name_32 (by decide) ?_
        refine ps_istore_n C (pc := 33) (lv' := [(3, .int (0 : Int32)), (0, .ref (z_ad z 45)), (1, .int a1), (2, .int a2)]) dX5_name_33 (by decide) rfl ?_
        refine ps_iconst C (pc := 34) (v := 0) dX5_name_34 (by decide) ?_
        refine ps_istore C (pc := 35) (lv' := [(4, .int (0 : Int32)), (3, .int (0 : Int32)), (0, .ref (z_ad z 45)), (1, .int a1), (2, .int a2)]) dX5_name_35 (by decide) rfl ?_
        obtain ⟨e11, he11, h⟩ := ps_bd h
        refine ps_sub [2, 3, 4, 1, 0] rfl ?_
        refine ps_loop (P := pX5_name_S37 z a1 a2 q4) (K := qX5_name_S37 z a1 a2 q4) (fun s r h k => tX5_name_S37 C Z a1 a2 q4  s r h k) _ _ _ he11 ?_
        unfold qX5_name_S37
        refine ps_aload_n C (pc := 79) dX5_name_79 0 rfl ?_
        refine ps_iconst C (pc := 80) (v := 1) dX5_name_80 (by decide) ?_
        refine ps_iload_n C (pc := 81) dX5_name_81 1 rfl ?_
        refine ps_iload_n C (pc := 82) dX5_name_82 2 rfl ?_
        obtain ⟨q12, hq12, h⟩ := ps_bd h
        refine ps_callVV C Z (pc := 83) (As := [.int (1 : Int32), .int a1, .int a2]) (k0 := 45) (mX5_swaps  hq12) (Cn := "PartSumsModel") rfl tw_1151 tw_1153 tw_61 tw_70 tw_1154 hdX5_swaps rfl rfl ⟨by decide, by decide⟩ (by decide) ps_o45 rfl rfl (Nat.le_of_ble_eq_true rfl) dX5_name_83 rfl ?_
        refine ps_iconst C (pc := 86) (v := 0) dX5_name_86 (by decide) ?_
        refine ps_istore C (pc := 87) (lv' := [(4, .int (0 : Int32)), (0, .ref (z_ad z 45)), (1, .int a1), (2, .int a2), (3, .int e11)]) dX5_name_87 (by decide) rfl ?_
        obtain ⟨e15, he15, h⟩ := ps_bd h
        refine ps_sub [1, 2, 3, 4, 0] rfl ?_
        refine ps_loop (P := pX5_name_S89 z a1 a2 e11) (K := qX5_name_S89 z a1 a2 e11) (fun s r h k => tX5_name_S89 C Z a1 a2 e11  s r h k) _ _ _ he15 ?_
        unfold qX5_name_S89
        refine ps_iconst C (pc := 117) (v := 0) dX5_name_117 (by decide) ?_
        refine ps_istore C (pc := 118) (lv' := [(4, .int (0 : Int32)), (0, .ref (z_ad z 45)), (1, .int a1), (2, .int a2), (3, .int e11)]) dX5_name_118 (by decide) rfl ?_
        obtain ⟨e21, he21, h⟩ := ps_bd h
        refine ps_sub [1, 2, 3, 4, 0] rfl ?_
        refine ps_loop (P := pX5_name_S120 z a1 a2 e11) (K := qX5_name_S120 z a1 a2 e11) (fun s r h k => tX5_name_S120 C Z a1 a2 e11  s r h k) _ _ _ he21 ?_
        unfold qX5_name_S120
        refine ps_iconst C (pc := 153) (v := 0) dX5_name_153 (by decide) ?_
        refine ps_istore C (pc := 154) (lv' := [(4, .int (0 : Int32)), (0, .ref (z_ad z 45)), (1, .int a1), (2, .int a2), (3, .int e11)]) dX5_name_154 (by decide) rfl ?_
        obtain ⟨e28, he28, h⟩ := ps_bd h
        refine ps_sub [1, 2, 3, 4, 0] rfl ?_
        refine ps_loop (P := pX5_name_S156 z a1 a2 e11) (K := qX5_name_S156 z a1 a2 e11) (fun s r h k => tX5_name_S156 C Z a1 a2 e11  s r h k) _ _ _ he28 ?_
        unfold qX5_name_S156
        refine ps_iload_n C (pc := 214) dX5_name_214 0 rfl ?_
        obtain rfl := Option.some.inj h
        exact k _ _ dX5_name_215
      · have h := ps_ift hc h
        refine ps_iconst C (pc := 26) (v := -1) dX5_name_26 (by decide) ?_
        obtain rfl := Option.some.inj h
        exact k _ _ dX5_name_27
def rmX5_name : Room := { frames := 3, cells := 0, slots := 0, locals := 67 }
theorem mX5_name {l : Launch} {E : ps_E} {σ : ps_S} {a1 : Int32} {a2 : Int32} {r : Int32 × ps_S}  (h : fX5_name a1 a2 σ = some r) : ps_MI l yX5_name (ps_wm yX5_name cX5_name 5 (some .int)) rmX5_name [.ref (e_ad E 45), .int a1, .int a2] E σ r.1 r.2 :=
  ps_metI yX5_name rmX5_name 5 (own := "PartSumsModel") r.1 (by decide +kernel) rfl (Nat.le_of_ble_eq_true rfl) rfl (fun z e1 e2 e3 e4 e5 C k => by
    subst e5
    exact tX5_name C (ps_Zof e1 e3 e4)  h k)
theorem hdX5_name : yX5_name.cls ≠ "java/lang/invoke/MethodHandle" ∧ yX5_name.cls ≠ "java/lang/invoke/VarHandle" ∧ (parseMethodDescriptor yX5_name.desc).map (fun d => d.parameters.length) = some 2 := by decide +kernel
def fX5_draw (a1 : Int32) (σ : ps_S) : Option (Int32 × ps_S) :=
  (ps_let (ps_ui σ 45 23 (((σ.1 45 23) * (1103515245 : Int32)) + (12345 : Int32))) fun σ1 =>
  (ps_cz a1 (some ((((σ1.1 45 23).toUInt32 >>> (Int32.toUInt32 (8 : Int32) &&& Int32.toUInt32 31)).toInt32 - ((σ1.1 45 23).toUInt32 >>> (Int32.toUInt32 (8 : Int32) &&& Int32.toUInt32 31)).toInt32 / a1 * a1), σ1))))
set_option maxHeartbeats 4000000 in
set_option maxRecDepth 100000 in
theorem tX5_draw {z : ps_X} (C : ps_C z cX5_draw 2 "PartSumsModel") (Z : ps_Z z 0 0) {a1 : Int32} {σ : ps_S}  {r : Int32 × ps_S} (h : fX5_draw a1 σ = some r) (k : ps_KI z 2 cX5_draw r.1 r.2) : ps_at z 2 0 [(0, .ref (z_ad z 45)), (1, .int a1)] [] σ := by
  unfold fX5_draw at h
  refine ps_aload_n C (pc := 0) dX5_draw_0 0 rfl ?_
  refine ps_aload_n C (pc := 1) dX5_draw_1 0 rfl ?_
  refine pg_45_23 C (pc := 2) tw_819 dX5_draw_2 ?_
  refine ps_ldc C (pc := 5) tw_1170 dX5_draw_5 ?_
  refine ps_imul C (pc := 7) dX5_draw_7 ?_
  refine ps_sipush C (pc := 8) (v := 12345) dX5_draw_8 (by decide) ?_
  refine ps_iadd C (pc := 11) dX5_draw_11 ?_
  refine pp_45_23 C (pc := 12) tw_819 dX5_draw_12 h (fun σ1 h => ?_)
  refine ps_aload_n C (pc := 15) dX5_draw_15 0 rfl ?_
  refine pg_45_23 C (pc := 16) tw_819 dX5_draw_16 ?_
  refine ps_bipush C (pc := 19) (v := 8) dX5_draw_19 (by decide) ?_
  refine ps_iushr C (pc := 21) dX5_draw_21 ?_
  refine ps_iload_n C (pc := 22) dX5_draw_22 1 rfl ?_
  obtain ⟨hz2, h⟩ := ps_cz_s h
  refine ps_irem C (pc := 23) dX5_draw_23 hz2 ?_
  obtain rfl := Option.some.inj h
  exact k _ _ dX5_draw_24
def rmX5_draw : Room := { frames := 0, cells := 0, slots := 0, locals := 0 }
theorem mX5_draw {l : Launch} {E : ps_E} {σ : ps_S} {a1 : Int32} {r : Int32 × ps_S}  (h : fX5_draw a1 σ = some r) : ps_MI l yX5_draw (ps_wm yX5_draw cX5_draw 2 (some .int)) rmX5_draw [.ref (e_ad E 45), .int a1] E σ r.1 r.2 :=
  ps_metI yX5_draw rmX5_draw 2 (own := "PartSumsModel") r.1 (by decide +kernel) rfl (Nat.le_of_ble_eq_true rfl) rfl (fun z e1 e2 e3 e4 e5 C k => by
    subst e5
    exact tX5_draw C (ps_Zof e1 e3 e4)  h k)
theorem hdX5_draw : yX5_draw.cls ≠ "java/lang/invoke/MethodHandle" ∧ yX5_draw.cls ≠ "java/lang/invoke/VarHandle" ∧ (parseMethodDescriptor yX5_draw.desc).map (fun d => d.parameters.length) = some 1 := by decide +kernel
def fX5_does (σ : ps_S) : Option (ps_S) :=
  ((fX5_draw (3 : Int32) σ).bind fun q1 =>
  (ps_let q1.1 fun x2 =>
  (if x2 = 0 then ((fX5_things q1.2).bind fun q11 =>
  ((fX5_draw q11 q1.2).bind fun q12 =>
  (ps_let q12.1 fun x13 =>
  ((fX5_things q12.2).bind fun q14 =>
  ((fX5_draw q14 q12.2).bind fun q15 =>
  (ps_let q15.1 fun x16 =>
  (if x13 = x16 then some q15.2
  else ((fX5_joins 47 x13 x16 q15.2).bind fun q17 =>
  some q17))))))))
  else ((fX5_all q1.2).bind fun q3 =>
  ((fX5_draw (q3 + (1 : Int32)) q1.2).bind fun q4 =>
  (ps_let q4.1 fun x5 =>
  (if x2 = (1 : Int32) then ((fX5_draw (100 : Int32) q4.2).bind fun q8 =>
  (ps_ck ((1 : Int32) + x5) 1289 ((ps_let (ps_ui q8.2 47 (Int32.toNatClampNeg ((1 : Int32) + x5)) (q8.1 + (1 : Int32))) fun σ10 =>
  some σ10))))
  else (ps_ck ((1 : Int32) + x5) 1289 ((ps_let (ps_ui q4.2 47 (Int32.toNatClampNeg ((1 : Int32) + x5)) (0 : Int32)) fun σ7 =>
  some σ7))))))))))
set_option maxHeartbeats 4000000 in
set_option maxRecDepth 100000 in
theorem tX5_does {z : ps_X} (C : ps_C z cX5_does 4 "PartSumsModel") (Z : ps_Z z 2 40) {σ : ps_S}  {r : ps_S} (h : fX5_does σ = some r) (k : ps_KV z 4 cX5_does r) : ps_at z 4 0 [(0, .ref (z_ad z 45))] [] σ := by
  unfold fX5_does at h
  refine ps_aload_n C (pc := 0) dX5_does_0 0 rfl ?_
  refine ps_iconst C (pc := 1) (v := 3) dX5_does_1 (by decide) ?_
  obtain ⟨q1, hq1, h⟩ := ps_bd h
  refine ps_callVI C Z (pc := 2) (As := [.int (3 : Int32)]) (k0 := 45) (mX5_draw  hq1) (Cn := "PartSumsModel") rfl tw_1166 tw_1168 tw_63 tw_70 tw_1169 hdX5_draw rfl rfl ⟨by decide, by decide⟩ (by decide) ps_o45 rfl rfl (Nat.le_of_ble_eq_true rfl) dX5_does_2 rfl ?_
  refine ps_istoreL_n C (pc := 5) (lw := fun x2 => [(1, .int x2), (0, .ref (z_ad z 45))]) dX5_does_5 (by decide) (fun _ => rfl) h (fun x2 h => ?_)
  refine ps_iload_n C (pc := 6) dX5_does_6 0 rfl ?_
  refine ps_if_ne C (pc := 7) 43 dX5_does_7 (by decide) (fun hc => ?_) (fun hc => ?_)
  · have h := ps_iff hc h
    refine ps_aload_n C (pc := 43) dX5_does_43 1 rfl ?_
    refine ps_aload_n C (pc := 44) dX5_does_44 1 rfl ?_
    obtain ⟨q3, hq3, h⟩ := ps_bd h
    refine ps_callVI C Z (pc := 45) (As := []) (k0 := 45) (mX5_all  hq3) (Cn := "PartSumsModel") rfl tw_954 tw_956 tw_38 tw_70 tw_957 hdX5_all rfl rfl ⟨by decide, by decide⟩ (by decide) ps_o45 rfl rfl (Nat.le_of_ble_eq_true rfl) dX5_does_45 rfl ?_
    refine ps_iconst C (pc := 48) (v := 1) dX5_does_48 (by decide) ?_
    refine ps_iadd C (pc := 49) dX5_does_49 ?_
    obtain ⟨q4, hq4, h⟩ := ps_bd h
    refine ps_callVI C Z (pc := 50) (As := [.int (q3 + (1 : Int32))]) (k0 := 45) (mX5_draw  hq4) (Cn := "PartSumsModel") rfl tw_1166 tw_1168 tw_63 tw_70 tw_1169 hdX5_draw rfl rfl ⟨by decide, by decide⟩ (by decide) ps_o45 rfl rfl (Nat.le_of_ble_eq_true rfl) dX5_does_50 rfl ?_
    refine ps_istoreL_n C (pc := 53) (lw := fun x5 => [(2, .int x5), (1, .int x2), (0, .ref (z_ad z 45))]) dX5_does_53 (by decide) (fun _ => rfl) h (fun x5 h => ?_)
    refine ps_aload_n C (pc := 54) dX5_does_54 2 rfl ?_
    refine pg_45_10 C (pc := 55) tw_806 dX5_does_55 ?_
    refine ps_iconst C (pc := 58) (v := 1) dX5_does_58 (by decide) ?_
    refine ps_iload_n C (pc := 59) dX5_does_59 0 rfl ?_
    refine ps_iadd C (pc := 60) dX5_does_60 ?_
    refine ps_iload_n C (pc := 61) dX5_does_61 1 rfl ?_
    refine ps_iconst C (pc := 62) (v := 1) dX5_does_62 (by decide) ?_
    refine ps_icmp_ne C (pc := 63) 77 dX5_does_63 (by decide) (fun hc => ?_) (fun hc => ?_)
    · have h := ps_iff hc h
      refine ps_iconst C (pc := 77) (v := 0) dX5_does_77 (by decide) ?_
      obtain ⟨hi6, h⟩ := ps_ck_s h
      refine ps_iastL C (pc := 78) 47 rfl rfl hi6 dX5_does_78 h (fun σ7 h => ?_)
      obtain rfl := Option.some.inj h
      exact k _ _ dX5_does_79
    · have h := ps_ift hc h
      refine ps_aload_n C (pc := 66) dX5_does_66 2 rfl ?_
      refine ps_bipush C (pc := 67) (v := 100) dX5_does_67 (by decide) ?_
      obtain ⟨q8, hq8, h⟩ := ps_bd h
      refine ps_callVI C Z (pc := 69) (As := [.int (100 : Int32)]) (k0 := 45) (mX5_draw  hq8) (Cn := "PartSumsModel") rfl tw_1166 tw_1168 tw_63 tw_70 tw_1169 hdX5_draw rfl rfl ⟨by decide, by decide⟩ (by decide) ps_o45 rfl rfl (Nat.le_of_ble_eq_true rfl) dX5_does_69 rfl ?_
      refine ps_iconst C (pc := 72) (v := 1) dX5_does_72 (by decide) ?_
      refine ps_iadd C (pc := 73) dX5_does_73 ?_
      refine ps_goto C (pc := 74) 78 dX5_does_74 (by decide) ?_
      obtain ⟨hi9, h⟩ := ps_ck_s h
      refine ps_iastL C (pc := 78) 47 rfl rfl hi9 dX5_does_78 h (fun σ10 h => ?_)
      obtain rfl := Option.some.inj h
      exact k _ _ dX5_does_79
  · have h := ps_ift hc h
    refine ps_aload_n C (pc := 10) dX5_does_10 1 rfl ?_
    refine ps_aload_n C (pc := 11) dX5_does_11 1 rfl ?_
    obtain ⟨q11, hq11, h⟩ := ps_bd h
    refine ps_callVI C Z (pc := 12) (As := []) (k0 := 45) (mX5_things  hq11) (Cn := "PartSumsModel") rfl tw_946 tw_948 tw_36 tw_70 tw_949 hdX5_things rfl rfl ⟨by decide, by decide⟩ (by decide) ps_o45 rfl rfl (Nat.le_of_ble_eq_true rfl) dX5_does_12 rfl ?_
    obtain ⟨q12, hq12, h⟩ := ps_bd h
    refine ps_callVI C Z (pc := 15) (As := [.int q11]) (k0 := 45) (mX5_draw  hq12) (Cn := "PartSumsModel") rfl tw_1166 tw_1168 tw_63 tw_70 tw_1169 hdX5_draw rfl rfl ⟨by decide, by decide⟩ (by decide) ps_o45 rfl rfl (Nat.le_of_ble_eq_true rfl) dX5_does_15 rfl ?_
    refine ps_istoreL_n C (pc := 18) (lw := fun x13 => [(2, .int x13), (1, .int x2), (0, .ref (z_ad z 45))]) dX5_does_18 (by decide) (fun _ => rfl) h (fun x13 h => ?_)
    refine ps_aload_n C (pc := 19) dX5_does_19 2 rfl ?_
    refine ps_aload_n C (pc := 20) dX5_does_20 2 rfl ?_
    obtain ⟨q14, hq14, h⟩ := ps_bd h
    refine ps_callVI C Z (pc := 21) (As := []) (k0 := 45) (mX5_things  hq14) (Cn := "PartSumsModel") rfl tw_946 tw_948 tw_36 tw_70 tw_949 hdX5_things rfl rfl ⟨by decide, by decide⟩ (by decide) ps_o45 rfl rfl (Nat.le_of_ble_eq_true rfl) dX5_does_21 rfl ?_
    obtain ⟨q15, hq15, h⟩ := ps_bd h
    refine ps_callVI C Z (pc := 24) (As := [.int q14]) (k0 := 45) (mX5_draw  hq15) (Cn := "PartSumsModel") rfl tw_1166 tw_1168 tw_63 tw_70 tw_1169 hdX5_draw rfl rfl ⟨by decide, by decide⟩ (by decide) ps_o45 rfl rfl (Nat.le_of_ble_eq_true rfl) dX5_does_24 rfl ?_
    refine ps_istoreL_n C (pc := 27) (lw := fun x16 => [(3, .int x16), (2, .int x13), (1, .int x2), (0, .ref (z_ad z 45))]) dX5_does_27 (by decide) (fun _ => rfl) h (fun x16 h => ?_)
    refine ps_iload_n C (pc := 28) dX5_does_28 1 rfl ?_
    refine ps_iload_n C (pc := 29) dX5_does_29 0 rfl ?_
    refine ps_icmp_eq C (pc := 30) 42 dX5_does_30 (by decide) (fun hc => ?_) (fun hc => ?_)
    · have h := ps_ift hc h
      obtain rfl := Option.some.inj h
      exact k _ _ dX5_does_42
    · have h := ps_iff hc h
      refine ps_aload_n C (pc := 33) dX5_does_33 3 rfl ?_
      refine pg_45_10 C (pc := 34) tw_806 dX5_does_34 ?_
      refine ps_iload_n C (pc := 37) dX5_does_37 1 rfl ?_
      refine ps_iload_n C (pc := 38) dX5_does_38 0 rfl ?_
      obtain ⟨q17, hq17, h⟩ := ps_bd h
      refine ps_callSV C Z (pc := 39) (As := [.ref (z_ad z 47), .int x13, .int x16]) (mX5_joins (by rfl) hq17) tw_928 tw_929 tw_70 tw_930 hdX5_joins rfl rfl ⟨by decide, by decide⟩ rfl (Nat.le_of_ble_eq_true rfl) dX5_does_39 rfl ?_
      obtain rfl := Option.some.inj h
      exact k _ _ dX5_does_42
def rmX5_does : Room := { frames := 2, cells := 0, slots := 0, locals := 40 }
theorem mX5_does {l : Launch} {E : ps_E} {σ : ps_S}  {r : ps_S}  (h : fX5_does σ = some r) : ps_MV l yX5_does (ps_wm yX5_does cX5_does 4 none) rmX5_does [.ref (e_ad E 45)] E σ r :=
  ps_metV yX5_does rmX5_does 4 (own := "PartSumsModel")  (by decide +kernel) rfl (Nat.le_of_ble_eq_true rfl) rfl (fun z e1 e2 e3 e4 e5 C k => by
    subst e5
    exact tX5_does C (ps_Zof e1 e3 e4)  h k)
theorem hdX5_does : yX5_does.cls ≠ "java/lang/invoke/MethodHandle" ∧ yX5_does.cls ≠ "java/lang/invoke/VarHandle" ∧ (parseMethodDescriptor yX5_does.desc).map (fun d => d.parameters.length) = some 0 := by decide +kernel
def pX5_drawn_S37 (z : ps_X) (a1 : Int32) (s : Int32 × ps_S) : Prop := ps_at z 4 37 [(0, .ref (z_ad z 45)), (1, .int a1), (3, .int s.1)] [] s.2
def qX5_drawn_S37 (z : ps_X) (a1 : Int32) (x : (ps_S)) : Prop := match x with | y => ps_at z 4 52 [(0, .ref (z_ad z 45))] [] y
def fX5_drawn_S37 (a1 : Int32) (a3 : Int32) (σ : ps_S) : Option ((Int32 × ps_S) ⊕ ((ps_S))) :=
  (if a1 ≤ a3 then some (.inr σ)
  else ((fX5_does σ).bind fun q6 =>
  (ps_let (a3 + (1 : Int32)) fun x7 =>
  some (.inl (x7, q6)))))
set_option maxHeartbeats 4000000 in
set_option maxRecDepth 100000 in
theorem tX5_drawn_S37 {z : ps_X} (C : ps_C z cX5_drawn 4 "PartSumsModel") (Z : ps_Z z 3 63) (a1 : Int32)  (s : Int32 × ps_S) (r : (Int32 × ps_S) ⊕ ((ps_S))) (h : fX5_drawn_S37 a1 s.1 s.2 = some r) (k : ps_k (pX5_drawn_S37 z a1) (qX5_drawn_S37 z a1) r) : pX5_drawn_S37 z a1 s := by
  obtain ⟨a3, σ⟩ := s
  unfold fX5_drawn_S37 at h
  unfold pX5_drawn_S37
  refine ps_iload_n C (pc := 37) dX5_drawn_37 2 rfl ?_
  refine ps_iload_n C (pc := 38) dX5_drawn_38 1 rfl ?_
  refine ps_icmp_ge C (pc := 39) 52 dX5_drawn_39 (by decide) (fun hc => ?_) (fun hc => ?_)
  · have h := ps_ift hc h
    obtain rfl := Option.some.inj h
    exact ps_sub [0] rfl k
  · have h := ps_iff hc h
    refine ps_aload_n C (pc := 42) dX5_drawn_42 0 rfl ?_
    obtain ⟨q6, hq6, h⟩ := ps_bd h
    refine ps_callVV C Z (pc := 43) (As := []) (k0 := 45) (mX5_does  hq6) (Cn := "PartSumsModel") rfl tw_1162 tw_1164 tw_62 tw_70 tw_1165 hdX5_does rfl rfl ⟨by decide, by decide⟩ (by decide) ps_o45 rfl rfl (Nat.le_of_ble_eq_true rfl) dX5_drawn_43 rfl ?_
    refine ps_iincL C (pc := 46) (zz := 1) (lw := fun x7 => [(3, .int x7), (0, .ref (z_ad z 45)), (1, .int a1)]) dX5_drawn_46 2 rfl (by decide) (by decide) (fun _ => rfl) h (fun x7 h => ?_)
    refine ps_goto C (pc := 49) 37 dX5_drawn_49 (by decide) ?_
    obtain rfl := Option.some.inj h
    exact ps_sub [1, 2, 0] rfl k
def fX5_drawn (a1 : Int32) (a2 : Int32) (σ : ps_S) : Option (Int32 × ps_S) :=
  (ps_let (ps_ui σ 45 0 (0 : Int32)) fun σ1 =>
  ((fX5_isIn a1 (1 : Int32) (60 : Int32)).bind fun q2 =>
  (if q2 = 0 then some ((-1 : Int32), σ1)
  else ((fX5_things σ1).bind fun q3 =>
  (if q3 = 0 then some ((0 : Int32), σ1)
  else ((fX5_snap σ1).bind fun q4 =>
  (ps_let (ps_ui q4 45 23 a2) fun σ5 =>
  ((ps_lp (fun s => fX5_drawn_S37 a1 s.1 s.2) 100000 ((0 : Int32), σ5)).bind fun e8 =>
  ((fX5_told e8).bind fun q9 =>
  some (q9, e8))))))))))
set_option maxHeartbeats 4000000 in
set_option maxRecDepth 100000 in
theorem tX5_drawn {z : ps_X} (C : ps_C z cX5_drawn 4 "PartSumsModel") (Z : ps_Z z 3 63) {a1 : Int32} {a2 : Int32} {σ : ps_S}  {r : Int32 × ps_S} (h : fX5_drawn a1 a2 σ = some r) (k : ps_KI z 4 cX5_drawn r.1 r.2) : ps_at z 4 0 [(0, .ref (z_ad z 45)), (1, .int a1), (2, .int a2)] [] σ := by
  unfold fX5_drawn at h
  refine ps_aload_n C (pc := 0) dX5_drawn_0 0 rfl ?_
  refine ps_iconst C (pc := 1) (v := 0) dX5_drawn_1 (by decide) ?_
  refine pp_45_0 C (pc := 2) tw_796 dX5_drawn_2 h (fun σ1 h => ?_)
  refine ps_iload_n C (pc := 5) dX5_drawn_5 1 rfl ?_
  refine ps_iconst C (pc := 6) (v := 1) dX5_drawn_6 (by decide) ?_
  refine ps_bipush C (pc := 7) (v := 60) dX5_drawn_7 (by decide) ?_
  obtain ⟨q2, hq2, h⟩ := ps_bd h
  refine ps_callSI C Z (pc := 9) (As := [.int a1, .int (1 : Int32), .int (60 : Int32)]) (mX5_isIn  hq2) tw_904 tw_905 tw_70 tw_906 hdX5_isIn rfl rfl ⟨by decide, by decide⟩ rfl (Nat.le_of_ble_eq_true rfl) dX5_drawn_9 rfl ?_
  refine ps_if_ne C (pc := 12) 17 dX5_drawn_12 (by decide) (fun hc => ?_) (fun hc => ?_)
  · have h := ps_iff hc h
    refine ps_aload_n C (pc := 17) dX5_drawn_17 0 rfl ?_
    obtain ⟨q3, hq3, h⟩ := ps_bd h
    refine ps_callVI C Z (pc := 18) (As := []) (k0 := 45) (mX5_things  hq3) (Cn := "PartSumsModel") rfl tw_946 tw_948 tw_36 tw_70 tw_949 hdX5_things rfl rfl ⟨by decide, by decide⟩ (by decide) ps_o45 rfl rfl (Nat.le_of_ble_eq_true rfl) dX5_drawn_18 rfl ?_
    refine ps_if_ne C (pc := 21) 26 dX5_drawn_21 (by decide) (fun hc => ?_) (fun hc => ?_)
    · have h := ps_iff hc h
      refine ps_aload_n C (pc := 26) dX5_drawn_26 0 rfl ?_
      obtain ⟨q4, hq4, h⟩ := ps_bd h
      refine ps_callVV C Z (pc := 27) (As := []) (k0 := 45) (mX5_snap  hq4) (Cn := "PartSumsModel") rfl tw_994 tw_996 tw_44 tw_70 tw_997 hdX5_snap rfl rfl ⟨by decide, by decide⟩ (by decide) ps_o45 rfl rfl (Nat.le_of_ble_eq_true rfl) dX5_drawn_27 rfl ?_
      refine ps_aload_n C (pc := 30) dX5_drawn_30 0 rfl ?_
      refine ps_iload_n C (pc := 31) dX5_drawn_31 2 rfl ?_
      refine pp_45_23 C (pc := 32) tw_819 dX5_drawn_32 h (fun σ5 h => ?_)
      refine ps_iconst C (pc := 35) (v := 0) dX5_drawn_35 (by decide) ?_
      refine ps_istore_n C (pc := 36) (lv' := [(3, .int (0 : Int32)), (0, .ref (z_ad z 45)), (1, .int a1), (2, .int a2)]) dX5_drawn_36 (by decide) rfl ?_
      obtain ⟨e8, he8, h⟩ := ps_bd h
      refine ps_sub [1, 2, 0] rfl ?_
      refine ps_loop (P := pX5_drawn_S37 z a1) (K := qX5_drawn_S37 z a1) (fun s r h k => tX5_drawn_S37 C Z a1  s r h k) _ _ _ he8 ?_
      unfold qX5_drawn_S37
      refine ps_aload_n C (pc := 52) dX5_drawn_52 0 rfl ?_
      obtain ⟨q9, hq9, h⟩ := ps_bd h
      refine ps_callVI C Z (pc := 53) (As := []) (k0 := 45) (mX5_told  hq9) (Cn := "PartSumsModel") rfl tw_950 tw_952 tw_37 tw_70 tw_953 hdX5_told rfl rfl ⟨by decide, by decide⟩ (by decide) ps_o45 rfl rfl (Nat.le_of_ble_eq_true rfl) dX5_drawn_53 rfl ?_
      obtain rfl := Option.some.inj h
      exact k _ _ dX5_drawn_56
    · have h := ps_ift hc h
      refine ps_iconst C (pc := 24) (v := 0) dX5_drawn_24 (by decide) ?_
      obtain rfl := Option.some.inj h
      exact k _ _ dX5_drawn_25
  · have h := ps_ift hc h
    refine ps_iconst C (pc := 15) (v := -1) dX5_drawn_15 (by decide) ?_
    obtain rfl := Option.some.inj h
    exact k _ _ dX5_drawn_16
def rmX5_drawn : Room := { frames := 3, cells := 0, slots := 0, locals := 63 }
theorem mX5_drawn {l : Launch} {E : ps_E} {σ : ps_S} {a1 : Int32} {a2 : Int32} {r : Int32 × ps_S}  (h : fX5_drawn a1 a2 σ = some r) : ps_MI l yX5_drawn (ps_wm yX5_drawn cX5_drawn 4 (some .int)) rmX5_drawn [.ref (e_ad E 45), .int a1, .int a2] E σ r.1 r.2 :=
  ps_metI yX5_drawn rmX5_drawn 4 (own := "PartSumsModel") r.1 (by decide +kernel) rfl (Nat.le_of_ble_eq_true rfl) rfl (fun z e1 e2 e3 e4 e5 C k => by
    subst e5
    exact tX5_drawn C (ps_Zof e1 e3 e4)  h k)
theorem hdX5_drawn : yX5_drawn.cls ≠ "java/lang/invoke/MethodHandle" ∧ yX5_drawn.cls ≠ "java/lang/invoke/VarHandle" ∧ (parseMethodDescriptor yX5_drawn.desc).map (fun d => d.parameters.length) = some 2 := by decide +kernel
def fX5_undo (σ : ps_S) : Option (Int32 × ps_S) :=
  (ps_let (ps_ui σ 45 0 (0 : Int32)) fun σ1 =>
  (if (σ1.1 45 15) = 0 then some ((-1 : Int32), σ1)
  else (ps_let (ps_ui σ1 45 15 ((σ1.1 45 15) - (1 : Int32))) fun σ2 =>
  ((fX5_copy 50 ((1289 : Int32) * (σ2.1 45 15)) 47 (0 : Int32) σ2).bind fun q3 =>
  some ((q3.1 45 15), q3)))))
set_option maxHeartbeats 4000000 in
set_option maxRecDepth 100000 in
theorem tX5_undo {z : ps_X} (C : ps_C z cX5_undo 1 "PartSumsModel") (Z : ps_Z z 1 24) {σ : ps_S}  {r : Int32 × ps_S} (h : fX5_undo σ = some r) (k : ps_KI z 1 cX5_undo r.1 r.2) : ps_at z 1 0 [(0, .ref (z_ad z 45))] [] σ := by
  unfold fX5_undo at h
  refine ps_aload_n C (pc := 0) dX5_undo_0 0 rfl ?_
  refine ps_iconst C (pc := 1) (v := 0) dX5_undo_1 (by decide) ?_
  refine pp_45_0 C (pc := 2) tw_796 dX5_undo_2 h (fun σ1 h => ?_)
  refine ps_aload_n C (pc := 5) dX5_undo_5 0 rfl ?_
  refine pg_45_15 C (pc := 6) tw_811 dX5_undo_6 ?_
  refine ps_if_ne C (pc := 9) 14 dX5_undo_9 (by decide) (fun hc => ?_) (fun hc => ?_)
  · have h := ps_iff hc h
    refine ps_aload_n C (pc := 14) dX5_undo_14 0 rfl ?_
    refine ps_dup C (pc := 15) dX5_undo_15 rfl ?_
    refine pg_45_15 C (pc := 16) tw_811 dX5_undo_16 ?_
    refine ps_iconst C (pc := 19) (v := 1) dX5_undo_19 (by decide) ?_
    refine ps_isub C (pc := 20) dX5_undo_20 ?_
    refine pp_45_15 C (pc := 21) tw_811 dX5_undo_21 h (fun σ2 h => ?_)
    refine ps_aload_n C (pc := 24) dX5_undo_24 0 rfl ?_
    refine pg_45_13 C (pc := 25) tw_809 dX5_undo_25 ?_
    refine ps_sipush C (pc := 28) (v := 1289) dX5_undo_28 (by decide) ?_
    refine ps_aload_n C (pc := 31) dX5_undo_31 0 rfl ?_
    refine pg_45_15 C (pc := 32) tw_811 dX5_undo_32 ?_
    refine ps_imul C (pc := 35) dX5_undo_35 ?_
    refine ps_aload_n C (pc := 36) dX5_undo_36 0 rfl ?_
    refine pg_45_10 C (pc := 37) tw_806 dX5_undo_37 ?_
    refine ps_iconst C (pc := 40) (v := 0) dX5_undo_40 (by decide) ?_
    obtain ⟨q3, hq3, h⟩ := ps_bd h
    refine ps_callSV C Z (pc := 41) (As := [.ref (z_ad z 50), .int ((1289 : Int32) * (σ2.1 45 15)), .ref (z_ad z 47), .int (0 : Int32)]) (mX5_copy (by rfl) (by rfl) hq3) tw_935 tw_936 tw_70 tw_937 hdX5_copy rfl rfl ⟨by decide, by decide⟩ rfl (Nat.le_of_ble_eq_true rfl) dX5_undo_41 rfl ?_
    refine ps_aload_n C (pc := 44) dX5_undo_44 0 rfl ?_
    refine pg_45_15 C (pc := 45) tw_811 dX5_undo_45 ?_
    obtain rfl := Option.some.inj h
    exact k _ _ dX5_undo_48
  · have h := ps_ift hc h
    refine ps_iconst C (pc := 12) (v := -1) dX5_undo_12 (by decide) ?_
    obtain rfl := Option.some.inj h
    exact k _ _ dX5_undo_13
def rmX5_undo : Room := { frames := 1, cells := 0, slots := 0, locals := 24 }
theorem mX5_undo {l : Launch} {E : ps_E} {σ : ps_S}  {r : Int32 × ps_S}  (h : fX5_undo σ = some r) : ps_MI l yX5_undo (ps_wm yX5_undo cX5_undo 1 (some .int)) rmX5_undo [.ref (e_ad E 45)] E σ r.1 r.2 :=
  ps_metI yX5_undo rmX5_undo 1 (own := "PartSumsModel") r.1 (by decide +kernel) rfl (Nat.le_of_ble_eq_true rfl) rfl (fun z e1 e2 e3 e4 e5 C k => by
    subst e5
    exact tX5_undo C (ps_Zof e1 e3 e4)  h k)
theorem hdX5_undo : yX5_undo.cls ≠ "java/lang/invoke/MethodHandle" ∧ yX5_undo.cls ≠ "java/lang/invoke/VarHandle" ∧ (parseMethodDescriptor yX5_undo.desc).map (fun d => d.parameters.length) = some 0 := by decide +kernel
def fX5_image (a1 : Int32) (σ : ps_S) : Option (Int32 × ps_S) :=
  (ps_let (ps_ui σ 45 0 (0 : Int32)) fun σ1 =>
  ((fX5_isIn a1 (0 : Int32) (1 : Int32)).bind fun q2 =>
  (if q2 = 0 then some ((0 : Int32), σ1)
  else ((fX5_copy 47 (0 : Int32) 49 ((1289 : Int32) * a1) σ1).bind fun q3 =>
  (ps_ck a1 2 ((ps_let (ps_ui q3 51 (Int32.toNatClampNeg a1) (vp_nar .boolean (1 : Int32))) fun σ5 =>
  some ((1 : Int32), σ5))))))))
set_option maxHeartbeats 4000000 in
set_option maxRecDepth 100000 in
theorem tX5_image {z : ps_X} (C : ps_C z cX5_image 2 "PartSumsModel") (Z : ps_Z z 1 24) {a1 : Int32} {σ : ps_S}  {r : Int32 × ps_S} (h : fX5_image a1 σ = some r) (k : ps_KZ z 2 cX5_image r.1 r.2) : ps_at z 2 0 [(0, .ref (z_ad z 45)), (1, .int a1)] [] σ := by
  unfold fX5_image at h
  refine ps_aload_n C (pc := 0) dX5_image_0 0 rfl ?_
  refine ps_iconst C (pc := 1) (v := 0) dX5_image_1 (by decide) ?_
  refine pp_45_0 C (pc := 2) tw_796 dX5_image_2 h (fun σ1 h => ?_)
  refine ps_iload_n C (pc := 5) dX5_image_5 1 rfl ?_
  refine ps_iconst C (pc := 6) (v := 0) dX5_image_6 (by decide) ?_
  refine ps_iconst C (pc := 7) (v := 1) dX5_image_7 (by decide) ?_
  obtain ⟨q2, hq2, h⟩ := ps_bd h
  refine ps_callSI C Z (pc := 8) (As := [.int a1, .int (0 : Int32), .int (1 : Int32)]) (mX5_isIn  hq2) tw_904 tw_905 tw_70 tw_906 hdX5_isIn rfl rfl ⟨by decide, by decide⟩ rfl (Nat.le_of_ble_eq_true rfl) dX5_image_8 rfl ?_
  refine ps_if_ne C (pc := 11) 16 dX5_image_11 (by decide) (fun hc => ?_) (fun hc => ?_)
  · have h := ps_iff hc h
    refine ps_aload_n C (pc := 16) dX5_image_16 0 rfl ?_
    refine pg_45_10 C (pc := 17) tw_806 dX5_image_17 ?_
    refine ps_iconst C (pc := 20) (v := 0) dX5_image_20 (by decide) ?_
    refine ps_aload_n C (pc := 21) dX5_image_21 0 rfl ?_
    refine pg_45_12 C (pc := 22) tw_808 dX5_image_22 ?_
    refine ps_sipush C (pc := 25) (v := 1289) dX5_image_25 (by decide) ?_
    refine ps_iload_n C (pc := 28) dX5_image_28 1 rfl ?_
    refine ps_imul C (pc := 29) dX5_image_29 ?_
    obtain ⟨q3, hq3, h⟩ := ps_bd h
    refine ps_callSV C Z (pc := 30) (As := [.ref (z_ad z 47), .int (0 : Int32), .ref (z_ad z 49), .int ((1289 : Int32) * a1)]) (mX5_copy (by rfl) (by rfl) hq3) tw_935 tw_936 tw_70 tw_937 hdX5_copy rfl rfl ⟨by decide, by decide⟩ rfl (Nat.le_of_ble_eq_true rfl) dX5_image_30 rfl ?_
    refine ps_aload_n C (pc := 33) dX5_image_33 0 rfl ?_
    refine pg_45_14 C (pc := 34) tw_810 dX5_image_34 ?_
    refine ps_iload_n C (pc := 37) dX5_image_37 1 rfl ?_
    refine ps_iconst C (pc := 38) (v := 1) dX5_image_38 (by decide) ?_
    obtain ⟨hi4, h⟩ := ps_ck_s h
    refine ps_zastL C (pc := 39) 51 rfl rfl hi4 dX5_image_39 h (fun σ5 h => ?_)
    refine ps_iconst C (pc := 40) (v := 1) dX5_image_40 (by decide) ?_
    obtain rfl := Option.some.inj h
    exact k _ _ (Or.inr rfl) dX5_image_41
  · have h := ps_ift hc h
    refine ps_iconst C (pc := 14) (v := 0) dX5_image_14 (by decide) ?_
    obtain rfl := Option.some.inj h
    exact k _ _ (Or.inl rfl) dX5_image_15
def rmX5_image : Room := { frames := 1, cells := 0, slots := 0, locals := 24 }
theorem mX5_image {l : Launch} {E : ps_E} {σ : ps_S} {a1 : Int32} {r : Int32 × ps_S}  (h : fX5_image a1 σ = some r) : ps_MI l yX5_image (ps_wm yX5_image cX5_image 2 (some .boolean)) rmX5_image [.ref (e_ad E 45), .int a1] E σ r.1 r.2 :=
  ps_metZ yX5_image rmX5_image 2 (own := "PartSumsModel") r.1 (by decide +kernel) rfl (Nat.le_of_ble_eq_true rfl) rfl (fun z e1 e2 e3 e4 e5 C k => by
    subst e5
    exact tX5_image C (ps_Zof e1 e3 e4)  h k)
theorem hdX5_image : yX5_image.cls ≠ "java/lang/invoke/MethodHandle" ∧ yX5_image.cls ≠ "java/lang/invoke/VarHandle" ∧ (parseMethodDescriptor yX5_image.desc).map (fun d => d.parameters.length) = some 1 := by decide +kernel
def fX5_restore (a1 : Int32) (σ : ps_S) : Option (Int32 × ps_S) :=
  (ps_let (ps_ui σ 45 0 (0 : Int32)) fun σ1 =>
  ((fX5_isIn a1 (0 : Int32) (1 : Int32)).bind fun q2 =>
  (if q2 = 0 then some ((0 : Int32), σ1)
  else (ps_ck a1 2 ((if (σ1.1 51 (Int32.toNatClampNeg a1)) = 0 then some ((0 : Int32), σ1)
  else ((fX5_copy 49 ((1289 : Int32) * a1) 47 (0 : Int32) σ1).bind fun q4 =>
  (ps_let (ps_ui q4 45 15 (0 : Int32)) fun σ5 =>
  some ((1 : Int32), σ5)))))))))
set_option maxHeartbeats 4000000 in
set_option maxRecDepth 100000 in
theorem tX5_restore {z : ps_X} (C : ps_C z cX5_restore 2 "PartSumsModel") (Z : ps_Z z 1 24) {a1 : Int32} {σ : ps_S}  {r : Int32 × ps_S} (h : fX5_restore a1 σ = some r) (k : ps_KZ z 2 cX5_restore r.1 r.2) : ps_at z 2 0 [(0, .ref (z_ad z 45)), (1, .int a1)] [] σ := by
  unfold fX5_restore at h
  refine ps_aload_n C (pc := 0) dX5_restore_0 0 rfl ?_
  refine ps_iconst C (pc := 1) (v := 0) dX5_restore_1 (by decide) ?_
  refine pp_45_0 C (pc := 2) tw_796 dX5_restore_2 h (fun σ1 h => ?_)
  refine ps_iload_n C (pc := 5) dX5_restore_5 1 rfl ?_
  refine ps_iconst C (pc := 6) (v := 0) dX5_restore_6 (by decide) ?_
  refine ps_iconst C (pc := 7) (v := 1) dX5_restore_7 (by decide) ?_
  obtain ⟨q2, hq2, h⟩ := ps_bd h
  refine ps_callSI C Z (pc := 8) (As := [.int a1, .int (0 : Int32), .int (1 : Int32)]) (mX5_isIn  hq2) tw_904 tw_905 tw_70 tw_906 hdX5_isIn rfl rfl ⟨by decide, by decide⟩ rfl (Nat.le_of_ble_eq_true rfl) dX5_restore_8 rfl ?_
  refine ps_if_eq C (pc := 11) 23 dX5_restore_11 (by decide) (fun hc => ?_) (fun hc => ?_)
  · have h := ps_ift hc h
    refine ps_iconst C (pc := 23) (v := 0) dX5_restore_23 (by decide) ?_
    obtain rfl := Option.some.inj h
    exact k _ _ (Or.inl rfl) dX5_restore_24
  · have h := ps_iff hc h
    refine ps_aload_n C (pc := 14) dX5_restore_14 0 rfl ?_
    refine pg_45_14 C (pc := 15) tw_810 dX5_restore_15 ?_
    refine ps_iload_n C (pc := 18) dX5_restore_18 1 rfl ?_
    obtain ⟨hi3, h⟩ := ps_ck_s h
    refine ps_zald C (pc := 19) 51 rfl rfl hi3 dX5_restore_19 ?_
    refine ps_if_ne C (pc := 20) 25 dX5_restore_20 (by decide) (fun hc => ?_) (fun hc => ?_)
    · have h := ps_iff hc h
      refine ps_aload_n C (pc := 25) dX5_restore_25 0 rfl ?_
      refine pg_45_12 C (pc := 26) tw_808 dX5_restore_26 ?_
      refine ps_sipush C (pc := 29) (v := 1289) dX5_restore_29 (by decide) ?_
      refine ps_iload_n C (pc := 32) dX5_restore_32 1 rfl ?_
      refine ps_imul C (pc := 33) dX5_restore_33 ?_
      refine ps_aload_n C (pc := 34) dX5_restore_34 0 rfl ?_
      refine pg_45_10 C (pc := 35) tw_806 dX5_restore_35 ?_
      refine ps_iconst C (pc := 38) (v := 0) dX5_restore_38 (by decide) ?_
      obtain ⟨q4, hq4, h⟩ := ps_bd h
      refine ps_callSV C Z (pc := 39) (As := [.ref (z_ad z 49), .int ((1289 : Int32) * a1), .ref (z_ad z 47), .int (0 : Int32)]) (mX5_copy (by rfl) (by rfl) hq4) tw_935 tw_936 tw_70 tw_937 hdX5_copy rfl rfl ⟨by decide, by decide⟩ rfl (Nat.le_of_ble_eq_true rfl) dX5_restore_39 rfl ?_
      refine ps_aload_n C (pc := 42) dX5_restore_42 0 rfl ?_
      refine ps_iconst C (pc := 43) (v := 0) dX5_restore_43 (by decide) ?_
      refine pp_45_15 C (pc := 44) tw_811 dX5_restore_44 h (fun σ5 h => ?_)
      refine ps_iconst C (pc := 47) (v := 1) dX5_restore_47 (by decide) ?_
      obtain rfl := Option.some.inj h
      exact k _ _ (Or.inr rfl) dX5_restore_48
    · have h := ps_ift hc h
      refine ps_iconst C (pc := 23) (v := 0) dX5_restore_23 (by decide) ?_
      obtain rfl := Option.some.inj h
      exact k _ _ (Or.inl rfl) dX5_restore_24
def rmX5_restore : Room := { frames := 1, cells := 0, slots := 0, locals := 24 }
theorem mX5_restore {l : Launch} {E : ps_E} {σ : ps_S} {a1 : Int32} {r : Int32 × ps_S}  (h : fX5_restore a1 σ = some r) : ps_MI l yX5_restore (ps_wm yX5_restore cX5_restore 2 (some .boolean)) rmX5_restore [.ref (e_ad E 45), .int a1] E σ r.1 r.2 :=
  ps_metZ yX5_restore rmX5_restore 2 (own := "PartSumsModel") r.1 (by decide +kernel) rfl (Nat.le_of_ble_eq_true rfl) rfl (fun z e1 e2 e3 e4 e5 C k => by
    subst e5
    exact tX5_restore C (ps_Zof e1 e3 e4)  h k)
theorem hdX5_restore : yX5_restore.cls ≠ "java/lang/invoke/MethodHandle" ∧ yX5_restore.cls ≠ "java/lang/invoke/VarHandle" ∧ (parseMethodDescriptor yX5_restore.desc).map (fun d => d.parameters.length) = some 1 := by decide +kernel
