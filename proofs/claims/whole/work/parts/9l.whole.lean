def R_law : String := "PartSumsLaw"
def lw_P (b : Addr) (xs : List Int32) (args : Array Value) (s : State) : Prop := args = #[.ref b] ∧ s.IntsAt b xs ∧ xs.length ≤ 3072 ∧ (Jvm.Cond.and given_1 narrow_1).before args s = true
def lw_Q (_ : Array Value) (s : State) (o : Outcome) (t : State) : Prop := o = .returned (some (.int 1)) ∧ Framed s o t [] 601024 7293034
def lw_Z (below : List Frame) (a : Array Value) (s : State) : State → Prop := fun t => ∃ o, t.status = .running ∧ Ended t below o ∧ lw_Q a s o t
/-- the law's own end, with 1 on the stack, nothing written that was there before, its room as the claim has it -/
theorem lw_ret {p : Program} {l : Launch} {e : Env} {s : State} {m : MethodId} {below : List Frame} {meth : Method} {c : Code} {b : Nat} (hx : p.tables.exec = Jvm.exec) (hb : c.code = code) (hr : meth.sig.returnType = ret) (hlocks : meth.locks = false) {pc : Nat} {H : Heap} {ls : Array Slot} (hdg : decode code pc = .ok (.ireturn, 1)) : W p l e room_1 s m #[Value.ref b] below meth c H [] 601024 7293034 (lw_Z below #[Value.ref b] s) (F0 m pc ls [.int 1]) := by
  intro T hT X
  obtain ⟨fs, hret, hrun, hended, hW, hframe⟩ := X.leave (v := some (.int 1)) (hlocks := hlocks) (fun h => by rw [hr] at h; cases h)
  have hmeth' : T.vm.method? m = some meth := X.method'
  refine ⟨T.setFrames fs, ?_, .returned (some (.int 1)), hrun, hended, rfl, ⟨_, rfl⟩, hW, hframe⟩
  jvm_step X.here [X.here.top, hx, hb, hdg, hmeth', hr, ret, narrow_b1]
  (try refine ⟨rfl, ?_⟩); (try refine ⟨rfl, ?_⟩)
  first | (intro acts; rw [hret _ acts rfl rfl rfl]) | rw [hret _ _ rfl rfl rfl]
  exact Steps.refl _
/-- what holds at the law's entry: the machine, the code, the tables' words (any of lw_tbl by 'hts w (by decide +kernel)'), the script of L ints xs at the cell b, what the Statement gives of the start (any of its parts by flat_of_before) -/
def lw_At (p : Program) (s : State) (m : MethodId) (meth : Method) (c : Code) (b L : Nat) (xs : Nat → Int32) : Prop :=
  p.tables.exec = Jvm.exec ∧ c.code = code ∧ meth.sig.returnType = ret ∧ c.maxLocals = 7 ∧ s.vm.findClass R_law = some m.cls ∧ (∀ w ∈ lw_tbl, w.before #[Value.ref b] s = true) ∧ va_X b L xs s s.heap ∧ b < s.heap.size ∧ meth.locks = false ∧ (Jvm.Cond.and given_1 narrow_1).before #[Value.ref b] s = true
/-! the law's body: both are made, the out array; then the loop -/
theorem wl_d4 : yX4_init.cls ≠ "java/lang/invoke/MethodHandle" ∧ yX4_init.cls ≠ "java/lang/invoke/VarHandle" ∧ (parseMethodDescriptor yX4_init.desc).map (fun d => d.parameters.length) = some 0 := by decide +kernel
theorem wl_d5 : yX5_init.cls ≠ "java/lang/invoke/MethodHandle" ∧ yX5_init.cls ≠ "java/lang/invoke/VarHandle" ∧ (parseMethodDescriptor yX5_init.desc).map (fun d => d.parameters.length) = some 0 := by decide +kernel
theorem wl_go {z : ps_X} {b : Nat} (hR : z_R z = room_1) (C : pn_C z (fun r => (z_s z).heap.size ≤ r) cL_law 7 "PartSumsLaw") (kk : ∀ (u : wz_U) (v : wz_V) (q : Nat), pn_at z (fun r => (z_s z).heap.size ≤ r) 7 23 [(4, .int 0), (3, .ref q), (2, .ref v.1), (1, .ref u.1), (0, .ref b)] [] (wz_W (z_cs z) u v q) 60 29239) : pn_at z (fun r => (z_s z).heap.size ≤ r) 7 0 [(0, .ref b)] [] [] 0 0 := by
  refine pn_new C 4 [.null, .null, .null, .null, .null, .null, .null, .null, .null] rfl tw_inX4 tyX4 tyX4_ok tw_83 tw_84 tw_65 (fun j hj => by match j, hj with | 0, _ => rfl | 1, _ => rfl | 2, _ => rfl | 3, _ => rfl | 4, _ => rfl | 5, _ => rfl | 6, _ => rfl | 7, _ => rfl | 8, _ => rfl) (by rw [hR]; exact Nat.le_of_ble_eq_true rfl) (by rw [hR]; exact Nat.le_of_ble_eq_true rfl) dL_law_0 (fun q1 => ?_)
  refine pn_dup C dL_law_3 rfl ?_
  refine pn_callP C (k_P (z_l z) (z_D z) (z_cs z)) tw_85 tw_86 tw_65 tw_87 rfl wl_d4 rfl rfl ⟨by rw [hR]; exact Nat.le_of_ble_eq_true rfl, by rw [hR]; exact Nat.le_of_ble_eq_true rfl⟩ (Nat.le_of_ble_eq_true rfl) (by rw [hR]; exact Nat.le_of_ble_eq_true rfl) (by rw [hR]; exact Nat.le_of_ble_eq_true rfl) dL_law_4 (fun u hu => ?_)
  subst hu
  refine pn_astore (lv' := [(1, .ref u.1), (0, .ref b)]) C dL_law_7 (by decide) rfl ?_
  refine pn_new C 5 [.int 0, .null, .int 0, .int 0, .int 0, .int 0, .int 0, .int 0, .int 0, .int 0, .null, .null, .null, .null, .null, .int 0, .null, .null, .null, .null, .null, .null, .null, .int 0] rfl tw_inX5 tyX5 tyX5_ok tw_791 tw_785 tw_70 (fun j hj => by match j, hj with | 0, _ => rfl | 1, _ => rfl | 2, _ => rfl | 3, _ => rfl | 4, _ => rfl | 5, _ => rfl | 6, _ => rfl | 7, _ => rfl | 8, _ => rfl | 9, _ => rfl | 10, _ => rfl | 11, _ => rfl | 12, _ => rfl | 13, _ => rfl | 14, _ => rfl | 15, _ => rfl | 16, _ => rfl | 17, _ => rfl | 18, _ => rfl | 19, _ => rfl | 20, _ => rfl | 21, _ => rfl | 22, _ => rfl | 23, _ => rfl | n + 24, h => exact absurd h (by omega)) (by rw [hR]; exact Nat.le_of_ble_eq_true rfl) (by rw [hR]; exact Nat.le_of_ble_eq_true rfl) dL_law_8 (fun q2 => ?_)
  refine pn_dup C dL_law_11 rfl ?_
  refine pn_callP C (k_M (z_l z) (z_D z) (z_cs z)) tw_792 tw_793 tw_70 tw_794 rfl wl_d5 rfl rfl ⟨by rw [hR]; exact Nat.le_of_ble_eq_true rfl, by rw [hR]; exact Nat.le_of_ble_eq_true rfl⟩ (Nat.le_of_ble_eq_true rfl) (by rw [hR]; exact Nat.le_of_ble_eq_true rfl) (by rw [hR]; exact Nat.le_of_ble_eq_true rfl) dL_law_12 (fun v hv => ?_)
  subst hv
  refine pn_astore (lv' := [(2, .ref v.1), (1, .ref u.1), (0, .ref b)]) C dL_law_15 (by decide) rfl ?_
  refine pn_iconst (v := 1) C dL_law_16 (by decide) ?_
  refine pn_newa (atype := .long) (ty := .long) C 1 (1, .inr (.inl (fun _ => 0))) 1 rfl tw_147 rfl (fun h => h) (fun _ => rfl) (by decide) (by decide) (Nat.le_of_ble_eq_true rfl) (by rw [hR]; exact Nat.le_of_ble_eq_true rfl) (by rw [hR]; exact Nat.le_of_ble_eq_true rfl) dL_law_17 (fun q => ?_)
  refine pn_astore (lv' := [(3, .ref q), (2, .ref v.1), (1, .ref u.1), (0, .ref b)]) C dL_law_19 (by decide) rfl ?_
  refine pn_iconst (v := 0) C dL_law_20 (by decide) ?_
  refine pn_istore (lv' := [(4, .int 0), (3, .ref q), (2, .ref v.1), (1, .ref u.1), (0, .ref b)]) C dL_law_21 (by decide) rfl ?_
  exact kk u v q
theorem wl_lf {l : Launch} (h : l.flags = flags0) : l.stackTraces = false := by
  unfold Launch.stackTraces
  rw [h]
  simp [flags0]
theorem whole_start {p : Program} {e : Env} {s : State} {m : MethodId} {below : List Frame} {meth : Method} {c : Code} (l : Launch) (hflags : l.flags = flags0) {b L : Nat} {xs : Nat → Int32} (hL : L ≤ 3072) (C0 : lw_At p s m meth c b L xs) : W p l e room_1 s m #[Value.ref b] below meth c s.heap [] 0 0 (lw_Z below #[Value.ref b] s) (entryFrame m ([Value.ref b] : List Value).toArray 7) := by
  obtain ⟨hx, hb, hr, hml, hown, hts, hX, hbl, hlocks, hgv⟩ := C0
  obtain ⟨D, cs, hK, hN, hO⟩ := st_K hts
  have hA0 : ∀ a : Nat, a < s.heap.size → ¬ (fun r => s.heap.size ≤ r) a := fun a h1 h2 => absurd h1 (Nat.not_lt.mpr h2)
  obtain ⟨K, V, sa, hT, hF⟩ := st_T (A := fun r => s.heap.size ≤ r) hts hgv hA0 D cs
  have hlf := wl_lf hflags
  have CF : CallFix p m c cL_law 7 s #[Value.ref b] tw_all "PartSumsLaw" := ⟨hx, hb, hml, hown, fun w h => hts w (tw_sub w h)⟩
  have hl := lv_entry ([.ref b] : List Value) (n := 7) (Nat.le_of_ble_eq_true rfl)
  rw [lg_entry_eq]
  refine wl_go (z := (s, room_1, l, p, e, m, #[Value.ref b], below, meth, c, 0, 0, lw_Z below #[Value.ref b] s, (D, cs, fun _ => 0, K, V))) (b := b) rfl ⟨CF, hK, hN, hO, fun q h => h⟩ (fun u v q H locs ls hP hD hS hl => ?_) s.heap [] _ (fun k x hx => by cases hx) ⟨fun i j p q hp _ _ => (by cases hp), fun k q hq => (by cases hq)⟩ va_S.rf hl
  have hAe := wz_A hD
  have C : ps_C (s, room_1, l, p, e, m, #[Value.ref b], below, meth, c, 60, 29239, lw_Z below #[Value.ref b] s, (D, cs, wz_ad u v q, K, V)) cL_law 7 "PartSumsLaw" := ⟨CF, hK, wz_J hD, hN, by
    show ps_T (D, cs, wz_ad u v q, K, V) (ps_A (wz_ad u v q) s.heap.size) s s.heap
    rw [hAe]
    exact hT _⟩
  have X : ps_XS (s, room_1, l, p, e, m, #[Value.ref b], below, meth, c, 60, 29239, lw_Z below #[Value.ref b] s, (D, cs, wz_ad u v q, K, V)) b L xs := ⟨hX, hbl, by
    show ¬ ps_A (wz_ad u v q) s.heap.size b
    rw [hAe]
    exact hA0 b hbl⟩
  have hF' : ps_F sa (ps_A (wz_ad u v q) s.heap.size) s s.heap := by rw [hAe]; exact hF
  have hS' : va_S (ps_A (wz_ad u v q) s.heap.size) s.heap H locs := by rw [hAe]; exact hS
  refine ll_go hL 512 (s, room_1, l, p, e, m, #[Value.ref b], below, meth, c, 60, 29239, lw_Z below #[Value.ref b] s, (D, cs, wz_ad u v q, K, V)) 0 wz_s C (show 19 ≤ 2048 by omega) (show 604 ≤ 84000 by omega) (show 60 + 512 ≤ 601024 by omega) (show 29239 + 6 * 512 ≤ 7293034 by omega) X hF' hlf wz_bR (by omega) (by omega) (fun ce sl i σ' h1 h2 => ?_) H locs ls (wz_P hP) hS' (lv_sub hl [4, 3, 2, 1, 0] rfl)
  have C2 : ps_C (s, room_1, l, p, e, m, #[Value.ref b], below, meth, c, ce, sl, lw_Z below #[Value.ref b] s, (D, cs, wz_ad u v q, K, V)) cL_law 7 "PartSumsLaw" := C
  refine ps_iconst (v := 1) C2 (pc := 1370) dL_law_1370 (by decide) ?_
  intro H1 locs1 ls1 hP1 hS1 hl1
  have h1' : ce ≤ 60 + 512 := h1
  have h2' : sl ≤ 29239 + 6 * 512 := h2
  have hlc : ∀ y ∈ locs1, s.heap.size ≤ y.base := fun y hy => by
    have h9 : ps_A (wz_ad u v q) s.heap.size y.base := hS1.2.2 y hy
    rw [hAe] at h9
    exact h9
  refine W.widen (k := 601024) (n := 7293034) (show ce ≤ 601024 by omega) (show sl ≤ 7293034 by omega) ?_
  rw [show locs1 = [] ++ locs1 from rfl]
  exact W.forget hlc (lw_ret hx hb hr hlocks dL_law_1371)
set_option maxHeartbeats 4000000 in
theorem lw_walk (l : Launch) (hflags : l.flags = flags0) (b : Addr) (xs : List Int32) : MetFree l x (headSpec (Jvm.Cond.code x code maxLocals ret :: tables_1) room_1) (lw_P b xs) (fun _ _ _ _ _ => True) lw_Q := by
  refine MetFree.of_bodyS (code := code) (maxLocals := maxLocals) (ret := ret) (by decide) ?_ ?_
  · intro args s m h hn
    obtain ⟨meth, c, h1, h2, h3, h4, h5, h6, -, -⟩ := Cond.code_spec hn (atoms_spec (ws := Jvm.Cond.code x code maxLocals ret :: tables_1) h _ List.mem_cons_self)
    exact ⟨meth, c, h1, h2, h3, h4, h5, h6⟩
  · intro p e s m args below meth c s₁ B hml0 hP _
    obtain ⟨rfl, hx, hbd, hgv⟩ := hP
    obtain ⟨scr, harrAt, hlist, hof, hsmall⟩ := hx
    obtain ⟨hcb, hkn, -, -⟩ := State.arrayAt?_spec harrAt
    have hown : s.vm.findClass R_law = some m.cls := findClass_of_methodNamed B.named
    have hts0 : ∀ c ∈ (Jvm.Cond.code x code maxLocals ret :: tables_1), c.before #[Value.ref b] s = true := atoms_spec (ws := Jvm.Cond.code x code maxLocals ret :: tables_1) B.pre
    have hts : ∀ w ∈ lw_tbl, w.before #[Value.ref b] s = true := k2_hts_sels lw_privs (fun w hw => hts0 w (List.mem_cons_of_mem _ hw)) lw_privs_ok
    have hml : c.maxLocals = 7 := B.maxLocals_eq (hts0 _ List.mem_cons_self)
    have X₀ : Stand p l e room_1 s m #[Value.ref b] below meth c s₁ [] 0 0 := Stand.of_body B
    have hh0 : s₁.heap = s.heap := by rw [B.state]; rfl
    have hsz : scr.slots.size = xs.length := by rw [← Array.length_toList, hlist, List.length_map]
    have hval : ∀ j : Nat, j < xs.length → scr.slots[j]? = some (.int (xs.getD j 0)) := fun j hj => by
      rw [← Array.getElem?_toList, hlist]
      simp [hj]
    have hbl : b < s.heap.size := (Array.getElem?_eq_some_iff.mp hcb).1
    have hX : va_X b xs.length (fun j => xs.getD j 0) s s.heap := ⟨scr, hcb, hof, hkn, hsz, hval⟩
    have K : W p l e room_1 s m #[Value.ref b] below meth c s₁.heap [] 0 0 (lw_Z below #[Value.ref b] s) (entryFrame m ([Value.ref b] : List Value).toArray 7) := by
      rw [hh0]
      exact whole_start l hflags hbd ⟨B.exec, B.bytes, B.returns, hml, hown, hts, hX, hbl, B.notSynchronized, hgv⟩
    obtain ⟨t, a1, o, b1, b2, b3⟩ := K s₁ rfl X₀
    exact ⟨t, o, a1, b1, b2, b3⟩
theorem lw_pre_spec {args : Array Value} {s : State} (h : (Jvm.Cond.and given_1 narrow_1).before args s = true) (hr : rest_1_c.before args s = true) : ∃ (b : Addr) (xs : List Int32), lw_P b xs args s := by
  have hs := flat_of_before _ h
  have hq := flat_of_before _ hr
  have hc : (Cond.count 1).before args s = true := hs _ (by decide +kernel)
  have harr : (Cond.arrayOf (.arg 0) .int).before args s = true := hs _ (by decide +kernel)
  have hle : (Cond.le (.length (.arg 0)) (.int 3072)).before args s = true := hs _ (by decide +kernel)
  have hlen : (Cond.isInt (.length (.arg 0))).before args s = true := hq _ (by decide +kernel)
  have hall : (Cond.all (.arg 0) (.isInt (.elem (.arg 0) (.index 0)))).before args s = true := hq _ (by decide +kernel)
  obtain ⟨b, xs, hb, hx⟩ := State.ints_of_pre rfl harr hlen hall
  have hsm : xs.length < 2 ^ 31 := hx.choose_spec.2.2.2
  have hev : (Term.length (.arg 0)).eval args s none [] s = some (.int xs.length.toInt32) := hx.length_eval hb
  have hv := Cond.le_ints hev (show (Term.int 3072).eval args s none [] s = some (.int 3072) from rfl)
  have hd : xs.length.toInt32 ≤ 3072 := by
    simpa [Cond.before, Cond.holds, hv] using hle
  have hN : xs.length ≤ 3072 := (Int32.ofNat_le_ofNat hsm (by decide)).mp (show Int32.ofNat xs.length ≤ Int32.ofNat 3072 from hd)
  exact ⟨b, xs, Cond.one_arg hc (show args[0]? = some (.ref b) from hb), hx, hN, h⟩
theorem lw_comes (l : Launch) (hflags : l.flags = flags0) : Comes l x (Jvm.Cond.code x code maxLocals ret :: tables_1) room_1 (fun tb e args s => Calls_1 tb e args s ∧ rest_1 tb e args s ∧ Pre_1 tb e args s)
    (fun _ _ args s o t => lw_Q args s o t) := by
  intro p e ha hc hk s m args below hf hfit hheap happ hpre
  obtain ⟨b, xs, hP⟩ := lw_pre_spec hpre.2.2 hpre.2.1
  obtain ⟨k, o, h1, h2, h3, hQ⟩ := lw_walk l hflags b xs p e ha hc hk s m args below hf ((Spec.applies_iff_loose hf).mp happ).1 hP trivial
  exact ⟨k, o, h1, h2, h3, hQ⟩
theorem lw_frame {s t : State} {o : Outcome} {args : Array Value} (h : Framed s o t [] 601024 7293034) :
    Framed s o t (fieldLocs frame_1_writes args s ++ arrayLocs frame_1_arrays args s ++ staticLocs frame_1_statics s) 601024 7293034 := h
theorem lw_limb (L : Cond) (hL : ∀ (args : Array Value) (s t : State), L.after args s (.returned (some (.int 1))) t = true) :
    ArmFor flags0 classFile x code maxLocals ret World_1 tables_1 room_1 Calls_1 rest_1 Pre_1
      (fun tb e a s o t => postC L tb e a s o t ∧ Framed s o t (fieldLocs frame_1_writes a s ++ arrayLocs frame_1_arrays a s ++ staticLocs frame_1_statics s) 601024 7293034) := by
  intro l hflags _ _ p e ha hc hk s m args below hf hfit hheap happ hpre
  obtain ⟨k, o, h1, h2, h3, rfl, hF⟩ := lw_comes l hflags p e ha hc hk s m args below hf hfit hheap happ hpre
  exact ⟨k, _, h1, h2, h3, hL args s _, lw_frame hF⟩
theorem i_vc : Claimed_1_1 ∧ Claimed_1_2 := ⟨lw_limb limb_1_1 (fun args s t => by simp [limb_1_1, Cond.after, Cond.holds, Cond.value]), lw_limb limb_1_2 (fun args s t => Cond.after_iff.mpr (by
  first | (rw [show limb_1_2 = Cond.eq .result (.int 1) from rfl, Cond.eq_ints (x := 1) (y := 1) rfl rfl]; simp; done) | (simp [limb_1_2, Cond.value, Term.eval]; done)))⟩
