/-! part(): it returns or throws; the law catches -/
abbrev nE : String := "java/util/NoSuchElementException"
abbrev pt_L : List Cond := vt_atS "PartSums" 197 nE "java/lang/RuntimeException" ["java/lang/Exception"] 13 prog_23_method_4_code
abbrev pt_B : List Cond := [.declares (Bundle.initS "java/lang/RuntimeException"), .declares (Bundle.initS "java/lang/Exception"), .declares (Bundle.initS "java/lang/Throwable"), .castable nE nE]
theorem pt_good : ∀ w ∈ pt_L.filter goodWord, w ∈ tw_all := by decide +kernel
theorem pt_rest : ∀ w ∈ pt_L.filter (fun w => !goodWord w), w ∈ pt_B := by decide +kernel
theorem pt_ot : ∀ w ∈ Cond.classLink "PartSums" 193 nE :: Cond.initialized nE :: pt_L, vx_ot w = true := by decide +kernel
theorem pt_cw : Cond.codeWith yL_part cL_part 5 (some .int) [(0, 10, 13, 13)] ∈ tw_all := tw_of 695 (by decide +kernel) (by decide +kernel)
def ps_F (sa : Nat) (A : Nat → Prop) (U : State) (H : Heap) : Prop := vk_R "PartSums" 195 "there is no such set of a cheapest parting" sa U ∧ vx_Zq Bundle.tN "UNASSIGNED_STACK" Bundle.steD A U H ∧ vx_Zq Bundle.tN "SUPPRESSED_SENTINEL" Bundle.listD A U H ∧ va_Nw (.declares (Bundle.initS "java/lang/RuntimeException")) U ∧ va_Nw (.declares (Bundle.initS "java/lang/Exception")) U ∧ va_Nw (.declares (Bundle.initS "java/lang/Throwable")) U ∧ va_Nw (.castable nE nE) U
theorem ps_F.go {sa : Nat} {A B : Nat → Prop} {s U : State} {H : Heap} (h : ps_F sa A s s.heap) (hW : s.WarmedH U.vm) (hU : U.heap = H) (hq : ∀ a : Nat, a < s.heap.size → ¬ A a → H[a]? = s.heap[a]?) (hAB : ∀ q, B q → A q) : ps_F sa B U U.heap := by
  obtain ⟨h1, h2, h3, h4, h5, h6, h7⟩ := h
  rw [hU]
  exact ⟨h1.warm hW, ((h2.kept hq).narrow hAB).moved hW.alike, ((h3.kept hq).narrow hAB).moved hW.alike, h4.warmD hW, h5.warmD hW, h6.warmD hW, h7.warmC hW⟩
theorem ps_F.same {sa : Nat} {A : Nat → Prop} {u U : State} {H : Heap} (h : ps_F sa A u H) (e : U.vm = u.vm) : ps_F sa A U H := by
  obtain ⟨h1, h2, h3, h4, h5, h6, h7⟩ := h
  have hv : u.vm.Alike U.vm := by rw [e]; exact Vm.Alike.refl u.vm
  exact ⟨h1.same e, h2.moved hv, h3.moved hv, va_Nw.same rfl e.symm h4, va_Nw.same rfl e.symm h5, va_Nw.same rfl e.symm h6, va_Nw.same rfl e.symm h7⟩
theorem pt_d1 : yX4_partOrNone.cls ≠ "java/lang/invoke/MethodHandle" ∧ yX4_partOrNone.cls ≠ "java/lang/invoke/VarHandle" ∧ Option.map (fun d => d.parameters.length) (parseMethodDescriptor yX4_partOrNone.desc) = some 2 := by decide +kernel
def pf_Pre (E : ps_E) (sa : Nat) (σ : ps_S) (sz : Nat) (U : State) : Prop := ps_Pre E σ sz U ∧ ps_F sa (ps_A (e_ad E) sz) U U.heap
theorem pf_blind {E : ps_E} {sa : Nat} {σ : ps_S} {sz : Nat} {av : List Value} : FrameBlind (va_Pc av (pf_Pre E sa σ sz)) := fun a U g mk q => by
  obtain ⟨q0, ⟨q1, qP, qK, qJ, qN, qT⟩, qF⟩ := q
  exact ⟨q0, ⟨q1, qP, va_K.moved (u := U) (U := U.calling g mk a) (Vm.Alike.refl U.vm) qK, qJ, qN.same rfl, qT.same rfl⟩, qF.same rfl⟩
abbrev rmP : Room := { frames := 6, cells := 1, slots := 6, locals := 170 }
theorem pf_part {l : Launch} {E : ps_E} {sa : Nat} {σ : ps_S} {a1 a2 : Int32} {q : Int32 × ps_S} (hlf : l.stackTraces = false) (h : fX4_partOrNone a1 a2 σ = some q) : ∀ sz, vx_Met l yX4_part (ps_wm yX4_part cX4_part 4 (some .int)) rmP (va_Pc [.ref (e_ad E 0), .int a1, .int a2] (pf_Pre E sa σ sz)) (va_Qi (fun r σ2 => r = q.1 ∧ q.1 ≠ -1 ∧ σ2 = q.2) (ps_B E) (ps_A (e_ad E) sz)) (vx_X (fun σ2 : ps_S => q.1 = -1 ∧ σ2 = q.2) (fun E0 σ2 t => E0 = nE ∧ ps_B E σ2 t) (ps_A (e_ad E) sz)) 1 6 (ps_A (e_ad E) sz) := by
  intro sz
  refine vx_ofW (cc := cX4_part) (maxL := 4) (ret := some .int) (by decide +kernel) rfl ?_
  intro p e s m args below meth c s₁ B hml htab hv
  obtain ⟨rfl, ⟨hsz, hP, hK, hJ, hN, hT⟩, hF⟩ := hv
  have hts := atoms_spec (ws := ps_wm yX4_part cX4_part 4 (some .int)) B.pre
  have hown : s.vm.findClass "PartSums" = some m.cls := findClass_of_methodNamed B.named
  have hlocks := B.notSynchronized
  have hr := B.returns
  subst hsz
  have C : ∀ Q, ps_C (s, rmP, l, p, e, m, ([.ref (e_ad E 0), .int a1, .int a2] : List Value).toArray, below, meth, c, 0, 0, Q, E) cX4_part 4 "PartSums" := fun _ => ⟨⟨B.exec, B.bytes, hml, hown, fun w h => hts w (List.mem_cons_of_mem _ h)⟩, hK, hJ, hN, hT⟩
  have hl := lv_entry ([.ref (e_ad E 0), .int a1, .int a2] : List Value) (n := 4) (Nat.le_of_ble_eq_true rfl)
  rw [lg_entry_eq]
  have Z : ∀ Q, ps_Z (s, rmP, l, p, e, m, ([.ref (e_ad E 0), .int a1, .int a2] : List Value).toArray, below, meth, c, 0, 0, Q, E) 6 170 := fun _ => ⟨Nat.le_refl _, Nat.le_refl _, Nat.zero_le _, Nat.zero_le _⟩
  have body : ps_at (s, rmP, l, p, e, m, ([.ref (e_ad E 0), .int a1, .int a2] : List Value).toArray, below, meth, c, 0, 0, vx_MQ below (va_Qi (fun r σ2 => r = q.1 ∧ q.1 ≠ -1 ∧ σ2 = q.2) (ps_B E) (ps_A (e_ad E) s.heap.size)) (vx_X (fun σ2 : ps_S => q.1 = -1 ∧ σ2 = q.2) (fun E0 σ2 t => E0 = nE ∧ ps_B E σ2 t) (ps_A (e_ad E) s.heap.size)) ([.ref (e_ad E 0), .int a1, .int a2] : List Value).toArray s 1 6 (ps_A (e_ad E) s.heap.size), E) 4 0 [(0, .ref (e_ad E 0)), (1, .int a1), (2, .int a2)] [] σ := by
    refine ps_aload_n (C _) dX4_part_0 0 rfl ?_
    refine ps_iload_n (C _) dX4_part_1 1 rfl ?_
    refine ps_iload_n (C _) dX4_part_2 2 rfl ?_
    refine ps_callVI (C _) (Z _) (pc := 3) (As := [.int a1, .int a2]) (k0 := 0) (mX4_partOrNone h) (Cn := "PartSums") rfl tw_701 tw_703 tw_22 tw_65 tw_704 pt_d1 rfl rfl ⟨by decide, by decide⟩ (by decide) ps_o0 rfl rfl (Nat.le_of_ble_eq_true rfl) dX4_part_3 rfl ?_
    refine ps_istore_n (C _) (lv' := [(3, .int q.1), (0, .ref (e_ad E 0)), (1, .int a1), (2, .int a2)]) dX4_part_6 (by decide) rfl ?_
    refine ps_iload_n (C _) dX4_part_7 0 rfl ?_
    refine ps_iconst (v := -1) (C _) dX4_part_8 (by decide) ?_
    refine ps_icmp_ne (C _) 22 dX4_part_9 (by decide) (fun hne => ?_) (fun heq => ?_)
    · refine ps_iload_n (C _) dX4_part_22 0 rfl ?_
      intro H locs ls hP hS hl
      refine W.widen (k := 1) (n := 6) (Nat.zero_le _) (Nat.zero_le _) ?_
      exact vx_ret (W.iret (v := q.1) B.exec B.bytes hr (fun t ht hW => ⟨⟨q.1, q.2, rfl, ⟨rfl, hne, rfl⟩, by unfold ps_B; rw [ht]; exact hP⟩, hS.F ht⟩) hS.2.2 dX4_part_23 hlocks)
    · intro H locs ls hP hS hl
      refine vt_makeS (bytes := prog_23_method_4_code) (ix := 13) (Y0 := "java/lang/RuntimeException") (names := ["java/lang/Exception"]) (own := "PartSums") (cls := nE) (text := "there is no such set of a cheapest parting") (sa := sa) (ik := 193) (is := 195) (ic := 197) (A := ps_A (e_ad E) s.heap.size) (pc := 12) B.exec B.bytes hlf (by decide +kernel) (by decide +kernel) (by decide +kernel) (by decide +kernel) hown (by decide +kernel) (by decide +kernel) (by decide +kernel) ((C (fun _ => True)).1.2.2.2.2 _ tw_709) ((C (fun _ => True)).1.2.2.2.2 _ tw_82) hF.1 (vx_hat (B := pt_B) (fun w hw => (C (fun _ => True)).1.2.2.2.2 w (pt_good w hw)) pt_rest (vx_c (hF.2.2.2.1.use rfl) (vx_c (hF.2.2.2.2.1.use rfl) (vx_c (hF.2.2.2.2.2.1.use rfl) (vx_c (hF.2.2.2.2.2.2.use rfl) vx_n))))) pt_ot hF.2.1 hF.2.2.1 hS (hl.1.trans hml.symm) dX4_part_12 dX4_part_15 dX4_part_16 dX4_part_18 (Nat.le_of_ble_eq_true rfl) (Nat.le_of_ble_eq_true rfl) (Nat.le_of_ble_eq_true rfl) (Nat.le_of_ble_eq_true rfl) (fun a ce H1 h1 h2 h3 h4 h5 hS1 => ?_)
      refine vx_athrow B.exec B.bytes dX4_part_21 ?_
      exact vx_out (fun x hx => (htab x hx).elim) hlocks h1 h2 h3 (fun t ht hvm => ⟨q.2, ⟨heq, rfl⟩, ⟨rfl, by unfold ps_B; rw [ht]; exact hP.kept (fun k x hx => h5 x.1 (hP k x hx).lt)⟩, hS1.F ht⟩) hS1.2.2 (Nat.le_of_ble_eq_true rfl) (Nat.le_of_ble_eq_true rfl)
  exact body s.heap [] _ hP va_S.rf hl
abbrev rmQ : Room := { frames := 7, cells := 1, slots := 6, locals := 193 }
theorem pf_law {l : Launch} {E : ps_E} {sa : Nat} {σ : ps_S} {a1 a2 : Int32} {r : Int32 × ps_S} (hlf : l.stackTraces = false) (h : fL_part a1 a2 σ = some r) : ∀ sz, vx_Met l yL_part (Cond.codeWith yL_part cL_part 5 (some .int) [(0, 10, 13, 13)] :: tw_all) rmQ (va_Pc [.ref (e_ad E 0), .int a1, .int a2, .ref (e_ad E 59)] (pf_Pre E sa σ sz)) (va_Qi (fun v σ2 => v = r.1 ∧ σ2 = r.2) (ps_B E) (ps_A (e_ad E) sz)) (vx_X (fun _ : Unit => False) (fun _ _ _ => True) (ps_A (e_ad E) sz)) 1 6 (ps_A (e_ad E) sz) := by
  intro sz
  obtain ⟨q, hq, h⟩ := ps_bd h
  refine vx_ofWH (cc := cL_part) (maxL := 5) (ret := some .int) (hh := [(0, 10, 13, 13)]) (by decide +kernel) rfl ?_
  intro p e s m args below meth c s₁ B hml hv
  obtain ⟨rfl, ⟨hsz, hP, hK, hJ, hN, hT⟩, hF⟩ := hv
  have hts := atoms_spec (ws := Cond.codeWith yL_part cL_part 5 (some .int) [(0, 10, 13, 13)] :: tw_all) B.pre
  have htab := vx_table (x := yL_part) B (hts _ List.mem_cons_self)
  have hown : s.vm.findClass "PartSumsLaw" = some m.cls := findClass_of_methodNamed B.named
  have hlocks := B.notSynchronized
  have hr := B.returns
  subst hsz
  obtain ⟨Q, hQ⟩ : ∃ Q, Q = vx_MQ below (va_Qi (fun v σ2 => v = r.1 ∧ σ2 = r.2) (ps_B E) (ps_A (e_ad E) s.heap.size)) (vx_X (fun _ : Unit => False) (fun _ _ _ => True) (ps_A (e_ad E) s.heap.size)) ([.ref (e_ad E 0), .int a1, .int a2, .ref (e_ad E 59)] : List Value).toArray s 1 6 (ps_A (e_ad E) s.heap.size) := ⟨_, rfl⟩
  have C : ∀ ce sl, ps_C (s, rmQ, l, p, e, m, ([.ref (e_ad E 0), .int a1, .int a2, .ref (e_ad E 59)] : List Value).toArray, below, meth, c, ce, sl, Q, E) cL_part 5 "PartSumsLaw" := fun _ _ => ⟨⟨B.exec, B.bytes, hml, hown, fun w h => hts w (List.mem_cons_of_mem _ h)⟩, hK, hJ, hN, hT⟩
  have hl := lv_entry ([.ref (e_ad E 0), .int a1, .int a2, .ref (e_ad E 59)] : List Value) (n := 5) (Nat.le_of_ble_eq_true rfl)
  rw [lg_entry_eq, ← hQ]
  have ret : ∀ (pc : Nat) (lv : List (Nat × Value)) (v : Int32) (σ2 : ps_S), v = r.1 → σ2 = r.2 → decode cL_part pc = .ok (.ireturn, 1) → ps_at (s, rmQ, l, p, e, m, ([.ref (e_ad E 0), .int a1, .int a2, .ref (e_ad E 59)] : List Value).toArray, below, meth, c, 0 + 1, 0 + 6, Q, E) 5 pc lv [.int v] σ2 := fun pc lv v σ2 e1 e2 d => by
    subst e1 e2 hQ
    intro H locs ls hP hS hl
    exact vx_ret (W.iret (v := r.1) B.exec B.bytes hr (fun t ht hW => ⟨⟨r.1, r.2, rfl, ⟨rfl, rfl⟩, by unfold ps_B; rw [ht]; exact hP⟩, hS.F ht⟩) hS.2.2 d hlocks)
  have body : ps_at (s, rmQ, l, p, e, m, ([.ref (e_ad E 0), .int a1, .int a2, .ref (e_ad E 59)] : List Value).toArray, below, meth, c, 0, 0, Q, E) 5 0 [(0, .ref (e_ad E 0)), (1, .int a1), (2, .int a2), (3, .ref (e_ad E 59))] [] σ := by
    refine ps_aload_n (C 0 0) dL_part_0 3 rfl ?_
    refine ps_iconst (v := 0) (C 0 0) dL_part_1 (by decide) ?_
    refine ps_aload_n (C 0 0) dL_part_2 0 rfl ?_
    refine ps_iload_n (C 0 0) dL_part_3 1 rfl ?_
    refine ps_iload_n (C 0 0) dL_part_4 2 rfl ?_
    intro H locs ls hP hS hl
    have hA : ∀ x, ps_A (e_ad E) H.size x → ps_A (e_ad E) s.heap.size x := fun x h => h.elim Or.inl (fun h => Or.inr (Nat.le_trans hS.1 h))
    refine vx_calli (vx_runV (As := [.int a1, .int a2]) (rest := [.int 0, .ref (e_ad E 59)]) (C 0 0).1 (pf_part (sa := sa) hlf hq H.size) (cwV 2 (C 0 0).1.2.2.2.2 (ps_tV tw_697 tw_698 tw_699 tw_65 tw_700) rfl rfl rfl ⟨rfl, by decide +kernel⟩ ⟨Nat.le_of_ble_eq_true rfl, Nat.le_of_ble_eq_true rfl⟩) ⟨pf_blind, va_recv (ci := 4) hK hP rfl ((ps_w_get (k := 0) (by decide)).trans (by rw [ps_o0])), fun U hU hW => ⟨rfl, ⟨by rw [hU], by rw [hU]; exact hP, va_K.moved hW.alike hK, hJ, hN.warm hW, hT.go hW hU hS.2.1 hA⟩, hF.go hW hU hS.2.1 hA⟩⟩ rfl rfl hl.1 rfl (lv_room (Nat.le_of_ble_eq_true rfl)) dL_part_5 ⟨Nat.le_of_ble_eq_true rfl, Nat.le_of_ble_eq_true rfl⟩) hS (fun x _ h => hA x h) hA (fun x _ h => hA x h) (fun E0 ce q9 u t H1 locs1 ht hvm hu hB hz hk1 hS1 h9 h10 h11 => ?_) (fun v u t H1 locs1 ht hvm hw hB hz hk1 hS1 => ?_)
    · obtain ⟨hu1, hu2⟩ := hu
      obtain ⟨hB1, hB2⟩ := hB
      subst hB1 hu2
      rw [if_pos hu1] at h
      have hr' := Option.some.inj h
      refine vx_catch (own := "PartSumsLaw") (name := nE) hown [] ⟨0, 10, 13, 13⟩ [] (by rw [htab]; rfl) (fun z hz => nomatch hz) (by decide) (by decide) ((C 0 0).1.2.2.2.2 _ tw_696) (hF.2.2.2.2.2.2.use rfl) h9 h10 h11 ?_
      have go : ps_at (s, rmQ, l, p, e, m, ([.ref (e_ad E 0), .int a1, .int a2, .ref (e_ad E 59)] : List Value).toArray, below, meth, c, 0 + 1, 0 + 6, Q, E) 5 13 [(0, .ref (e_ad E 0)), (1, .int a1), (2, .int a2), (3, .ref (e_ad E 59))] [.ref q9] q.2 := by
        refine ps_astore (C _ _) (lv' := [(4, .ref q9), (0, .ref (e_ad E 0)), (1, .int a1), (2, .int a2), (3, .ref (e_ad E 59))]) dL_part_13 (by decide) rfl ?_
        refine ps_iconst (v := 1) (C _ _) dL_part_15 (by decide) ?_
        exact ret 16 _ _ _ (by rw [← hr']) (by rw [← hr']) dL_part_16
      exact go H1 locs1 ls (by rw [← ht]; exact hB2) hS1 hl
    · obtain ⟨hw1, hw2, hw3⟩ := hw
      subst hw1 hw3
      rw [if_neg hw2] at h
      have hr' := Option.some.inj h
      have go : ps_at (s, rmQ, l, p, e, m, ([.ref (e_ad E 0), .int a1, .int a2, .ref (e_ad E 59)] : List Value).toArray, below, meth, c, 0 + 1, 0 + 6, Q, E) 5 8 [(0, .ref (e_ad E 0)), (1, .int a1), (2, .int a2), (3, .ref (e_ad E 59))] [.int q.1, .int 0, .ref (e_ad E 59)] q.2 := by
        refine ps_i2l (C _ _) dL_part_8 ?_
        refine ps_last (C _ _) 59 rfl (n := 1) rfl (show ¬ ((0:Int32) < 0 ∨ 1 ≤ Int32.toNatClampNeg 0) by decide) dL_part_9 ?_
        refine ps_goto (C _ _) 17 dL_part_10 (by decide) ?_
        refine ps_iconst (v := 0) (C _ _) dL_part_17 (by decide) ?_
        exact ret 18 _ _ _ (by rw [← hr']) (by rw [← hr']; rfl) dL_part_18
      exact go H1 locs1 ls (by rw [← ht]; exact hB) hS1 hl
  exact body s.heap [] _ hP va_S.rf hl
theorem pf_ok {z : ps_X} {sa : Nat} (C : ps_C z cL_law 7 "PartSumsLaw") (Z : ps_Z z 19 604) (ZM : ps_Z (z_more z) 19 604) (hF : ps_F sa (ps_A (z_ad z) (z_s z).heap.size) (z_s z) (z_s z).heap) (hlf : (z_l z).stackTraces = false) : ps_PartOk z := by
  intro pc lv st a1 a2 σ q d hcat h kk H locs ls hP hS hl
  have hA : ∀ x, ps_A (z_ad z) H.size x → ps_A (z_ad z) (z_s z).heap.size x := fun x h => h.elim Or.inl (fun h => Or.inr (Nat.le_trans hS.1 h))
  have hG : GoodIn tw_all (va_wsS "PartSumsLaw" 106 yL_part (Cond.codeWith yL_part cL_part 5 (some .int) [(0, 10, 13, 13)] :: tw_all)) := tw_in _ (fun w hw => by
    simp only [va_wsS, List.mem_append, List.mem_cons, List.not_mem_nil, or_false] at hw
    rcases hw with (rfl | rfl | rfl) | rfl | hw
    · exact tw_693
    · exact tw_694
    · exact tw_64
    · exact pt_cw
    · exact hw)
  refine vx_calli (vx_runSX (hh := [(0, 10, 13, 13)]) (As := [.ref (z_ad z 0), .int a1, .int a2, .ref (z_ad z 59)]) (rest := st) C.1 (pf_law (E := z_E z) (sa := sa) hlf h H.size) (vx_cwSW 4 C.1.2.2.2.2 hG rfl rfl rfl (by decide +kernel) ⟨Nat.le_trans (by decide) Z.1, Nat.le_trans (by decide) Z.2.1⟩) ⟨pf_blind, fun U hU hW => ⟨rfl, ⟨by rw [hU], by rw [hU]; exact hP, va_K.moved hW.alike C.2.1, C.2.2.1, C.2.2.2.1.warm hW, C.2.2.2.2.go hW hU hS.2.1 hA⟩, hF.go hW hU hS.2.1 hA⟩⟩ rfl rfl hl.1 rfl (lv_room (Nat.le_trans hcat (by decide))) d ⟨ZM.2.2.1, ZM.2.2.2⟩) hS (fun x _ h => hA x h) hA (fun x _ h => hA x h) (fun E0 ce q9 u t H1 locs1 ht hvm hu hB hz hk1 hS1 h9 h10 h11 => hu.elim) (fun v u t H1 locs1 ht hvm hw hB hz hk1 hS1 => ?_)
  obtain ⟨rfl, rfl⟩ := hw
  exact kk H1 locs1 ls (by rw [← ht]; exact hB) hS1 hl
