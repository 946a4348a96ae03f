/-! the constructors: a world that grows -/
def pn_A (h0 sz : Nat) : Nat → Prop := fun q => q = h0 ∨ sz ≤ q
def pn_at (z : ps_X) (A : Nat → Prop) (nL pc : Nat) (lv : List (Nat × Value)) (st : List Value) (ws : va_W) (ce sl : Nat) : Prop :=
  ∀ (H : Heap) (locs : List Loc) (ls : Array Slot), va_P (z_D z) vwCl ws H → va_D A ws → va_S A (z_s z).heap H locs → lv_has ls nL lv → W (z_p z) (z_l z) (z_e z) (z_R z) (z_s z) (z_m z) (z_args z) (z_below z) (z_meth z) (z_c z) H locs ce sl (z_Q z) (F0 (z_m z) pc ls st)
def pn_C (z : ps_X) (A : Nat → Prop) (cc : ByteArray) (nL : Nat) (own : String) : Prop := CallFix (z_p z) (z_m z) (z_c z) cc nL (z_s z) (z_args z) tw_all own ∧ va_K (z_D z) vwCl (ps_ty (z_cs z)) (z_s z) ∧ ps_N (z_s z) ∧ va_AOA .int (z_s z) ∧ ∀ q, (z_s z).heap.size ≤ q → A q
/-- an array class over arrays, read off its word, and carried to tables that are alike -/
theorem pn_aoS {t : FieldType} {args : Array Value} {s : State} (h : (Cond.arrayOver (.array t)).before args s = true) : ∃ (comp c : ClassId) (k : Class), s.vm.findClass (FieldType.array t).toString = some comp ∧ (s.vm.classes.findIdx? fun x => match x.kind with | .array component _ => component == comp | _ => false) = some c ∧ s.vm.classes[c]? = some k ∧ k.kind = .array comp (.array t) ∧ s.vm.findClass ("[" ++ (FieldType.array t).toString) = some c := by
  simp only [Cond.before, Cond.holds, Cond.value, beq_iff_eq, Option.bind_eq_some_iff, Option.map_eq_some_iff] at h
  obtain ⟨comp, hc, c, hi, k, hk, hb⟩ := h
  have hp := (Array.findIdx?_eq_some_iff_getElem.mp hi).2.1
  have hkk := (Array.getElem?_eq_some_iff.mp hk).2
  rw [hkk] at hp
  refine ⟨comp, c, k, hc, hi, hk, ?_⟩
  cases hkind : k.kind with
  | array component ty =>
    rw [hkind] at hb hp
    simp only [Bool.and_eq_true, decide_eq_true_eq] at hb
    rw [show component = comp from by simpa using hp, hb.1]
    exact ⟨rfl, hb.2⟩
  | _ => rw [hkind] at hb; cases hb
theorem va_AOA.moved {t : FieldType} {u U : State} (h : u.vm.Alike U.vm) (q : va_AOA t u) : va_AOA t U := by
  obtain ⟨comp, c, k, h1, h2, h3, h4, h5⟩ := pn_aoS (va_AOA.use (A := #[]) q)
  obtain ⟨k2, g1, g2⟩ := h.2.2 _ _ h3
  have e4 : k2.kind = .array comp (.array t) := by rw [g2]; exact h4
  refine va_AOA.of (A := #[]) ?_
  simp only [Cond.before, Cond.holds, Cond.value, beq_iff_eq, Option.bind_eq_some_iff, Option.map_eq_some_iff]
  refine ⟨comp, by rw [h.findClass]; exact h1, c, (h.findIdx?_eqK _ (fun _ => rfl)).trans h2, k2, g1, ?_⟩
  rw [e4]
  simp only [h.findClass, h5, decide_true, Bool.and_true]
theorem va_Pm {D : va_G} {cl : List vw_C} {ws : va_W} {H : Heap} : va_P D cl ws H ↔ ∀ x ∈ ws, va_at D cl x H := by
  constructor
  · intro h x hx
    obtain ⟨k, hk⟩ := List.mem_iff_getElem?.mp hx
    exact h k x hk
  · intro h k x hk
    exact h x (List.mem_of_getElem? hk)
theorem pn_D {A : Nat → Prop} {ws ws' : va_W} (h : va_D A ws) (e : ws'.map Prod.fst = ws.map Prod.fst) : va_D A ws' := by
  have key : ∀ (i : Nat) (p : Nat × va_E), ws'[i]? = some p → ∃ p0, ws[i]? = some p0 ∧ p0.1 = p.1 := fun i p hp => by
    have h1 : (ws'.map Prod.fst)[i]? = some p.1 := by rw [List.getElem?_map, hp]; rfl
    rw [e, List.getElem?_map] at h1
    cases hw : ws[i]? with
    | none => rw [hw] at h1; cases h1
    | some p0 => rw [hw] at h1; exact ⟨p0, rfl, Option.some.inj h1⟩
  refine ⟨fun i j p q hp hq hpq => ?_, fun k q hq => ?_⟩
  · obtain ⟨p0, a1, a2⟩ := key i p hp
    obtain ⟨q0, b1, b2⟩ := key j q hq
    exact h.1 i j p0 q0 a1 b1 (by rw [a2, b2, hpq])
  · obtain ⟨q0, b1, b2⟩ := key k q hq
    rw [← b2]; exact h.2 k q0 b1
/-- an array of references: only its places count -/
theorem pn_refs {D : va_G} {cl : List vw_C} {a N : Nat} {c : ClassId} {f f' : Nat → Option Nat} {H : Heap} (h : va_at D cl (a, .inl (c, N, .inr (.inr (.inr (.inr f))))) H) (e : ∀ j, j < N → f j = f' j) : va_at D cl (a, .inl (c, N, .inr (.inr (.inr (.inr f'))))) H := by
  have h1 : H[a]? = some (vp_cell c (N, .inr (.inr (.inr (.inr f))))) := h
  have h2 : vp_cell c (N, .inr (.inr (.inr (.inr f)))) = vp_cell c (N, .inr (.inr (.inr (.inr f')))) := by
    rw [vp_cell_q, vp_cell_q]
    unfold arrV
    congr 1
    congr 1
    funext j
    show va_rf (f j.val) = va_rf (f' j.val)
    rw [e j.val j.isLt]
  show H[a]? = some _
  rw [h1, h2]
theorem pn_join {D : va_G} {cl : List vw_C} {A : Nat → Prop} {wr w1 : va_W} {q : Nat} {x : va_E} {H H1 : Heap} (hP : va_P D cl (wr ++ [(q, x)]) H) (hD : va_D A (wr ++ [(q, x)])) (hk : ∀ r : Nat, r < H.size → ¬ pn_A q H.size r → H1[r]? = H[r]?) (hP1 : va_P D cl w1 H1) (hD1 : va_D (pn_A q H.size) w1) (hA : ∀ r, H.size ≤ r → A r) : va_P D cl (wr ++ w1) H1 ∧ va_D A (wr ++ w1) := by
  have hq : (wr ++ [(q, x)])[wr.length]? = some (q, x) := by rw [List.getElem?_append_right (Nat.le_refl _), Nat.sub_self]; rfl
  have hw : ∀ (k : Nat) (y : Nat × va_E), wr[k]? = some y → (wr ++ [(q, x)])[k]? = some y ∧ y.1 ≠ q ∧ y.1 < H.size := fun k y hy => by
    have hkl : k < wr.length := (List.getElem?_eq_some_iff.mp hy).1
    have h1 : (wr ++ [(q, x)])[k]? = some y := by rw [List.getElem?_append_left hkl]; exact hy
    refine ⟨h1, fun e => ?_, (hP k y h1).lt⟩
    have := hD.1 k wr.length y (q, x) h1 hq e
    omega
  have hPr : va_P D cl wr H1 := fun k y hy => by
    obtain ⟨h1, h2, h3⟩ := hw k y hy
    refine (hP k y h1).kept (hk y.1 h3 (fun z => ?_))
    rcases z with z | z
    · exact h2 z
    · omega
  refine ⟨hPr.app hP1, va_D.app ⟨fun i j p r hp hr e => hD.1 i j p r (hw i p hp).1 (hw j r hr).1 e, fun k y hy => hD.2 k y (hw k y hy).1⟩ (hD1.weaken (fun k y hy z => ?_)) (fun i j p r hp hr e => ?_)⟩
  · rcases z with z | z
    · rw [z]; exact hD.2 wr.length (q, x) hq
    · exact hA _ z
  · obtain ⟨-, h2, h3⟩ := hw i p hp
    rcases hD1.2 j r hr with z | z
    · exact h2 (e.trans z)
    · omega
section PN
variable {z : ps_X} {A : Nat → Prop} {cc : ByteArray} {nL : Nat} {own : String} {pc : Nat} {lv lv' : List (Nat × Value)} {st : List Value} {ws ws' : va_W} {ce sl : Nat}
theorem pn_aload (C : pn_C z A cc nL own) {k : Fin 4} {x : Nat} (d : decode cc pc = .ok (.aload_n k, 1)) (q : Nat) (hq : lv[q]? = some ((k : Nat), .ref x)) (kk : pn_at z A nL (pc + 1) lv (.ref x :: st) ws ce sl) : pn_at z A nL pc lv st ws ce sl := fun H locs ls hP hD hS hl => lv_aload_n C.1.1 C.1.2.1 d rfl (lv_at hl q hq) (kk H locs ls hP hD hS hl)
theorem pn_astore (C : pn_C z A cc nL own) {k : Fin 4} {x : Nat} (d : decode cc pc = .ok (.astore_n k, 1)) (hn : (k : Nat) < nL) (hl : ((k : Nat), Value.ref x) :: lv.filter (fun q => !(q.1 == (k : Nat)) && !(q.1 + 1 == (k : Nat) && q.2.category == 2)) = lv') (kk : pn_at z A nL (pc + 1) lv' st ws ce sl) : pn_at z A nL pc lv (.ref x :: st) ws ce sl := fun H locs ls hP hD hS h => lv_astore_n C.1.1 C.1.2.1 d rfl h hn hl (fun ls' h' => kk H locs ls' hP hD hS h')
theorem pn_istore (C : pn_C z A cc nL own) {k : Nat} {x : Int32} (d : decode cc pc = .ok (.istore k, 2)) (hn : k < nL) (hl : (k, Value.int x) :: lv.filter (fun q => !(q.1 == k) && !(q.1 + 1 == k && q.2.category == 2)) = lv') (kk : pn_at z A nL (pc + 2) lv' st ws ce sl) : pn_at z A nL pc lv (.int x :: st) ws ce sl := fun H locs ls hP hD hS h => lv_istore C.1.1 C.1.2.1 d h hn hl (fun ls' h' => kk H locs ls' hP hD hS h')
theorem pn_iconst (C : pn_C z A cc nL own) {n : Int} {v : Int32} (d : decode cc pc = .ok (.iconst n, 1)) (hv : Int32.ofInt n = v) (k : pn_at z A nL (pc + 1) lv (.int v :: st) ws ce sl) : pn_at z A nL pc lv st ws ce sl := fun H locs ls hP hD hS hl => lv_iconst C.1.1 C.1.2.1 d hv (k H locs ls hP hD hS hl)
theorem pn_bipush (C : pn_C z A cc nL own) {n : Int} {v : Int32} (d : decode cc pc = .ok (.bipush n, 2)) (hv : (Int8.ofInt n).toInt32 = v) (k : pn_at z A nL (pc + 2) lv (.int v :: st) ws ce sl) : pn_at z A nL pc lv st ws ce sl := fun H locs ls hP hD hS hl => lv_bipush C.1.1 C.1.2.1 d hv (k H locs ls hP hD hS hl)
theorem pn_sipush (C : pn_C z A cc nL own) {n : Int} {v : Int32} (d : decode cc pc = .ok (.sipush n, 3)) (hv : (Int16.ofInt n).toInt32 = v) (k : pn_at z A nL (pc + 3) lv (.int v :: st) ws ce sl) : pn_at z A nL pc lv st ws ce sl := fun H locs ls hP hD hS hl => lv_sipush C.1.1 C.1.2.1 d hv (k H locs ls hP hD hS hl)
theorem pn_dup (C : pn_C z A cc nL own) {va : Value} (d : decode cc pc = .ok (.dup, 1)) (hva : va.category = 1) (k : pn_at z A nL (pc + 1) lv (va :: va :: st) ws ce sl) : pn_at z A nL pc lv (va :: st) ws ce sl := fun H locs ls hP hD hS hl => lv_dup C.1.1 C.1.2.1 d hva (k H locs ls hP hD hS hl)
theorem pn_obj (C : pn_C z A cc nL own) {idx a : Nat} (hw : Cond.methodLink own idx Lib.objectInit ∈ tw_all) (hf : 1 ≤ (z_R z).frames) (hlo : (st.map fun v => v.category).sum + 12 ≤ (z_R z).locals) (d : decode cc pc = .ok (.invokespecial idx, 3)) (kk : pn_at z A nL (pc + 3) lv st ws ce sl) : pn_at z A nL pc lv (.ref a :: st) ws ce sl := fun H locs ls hP hD hS hl => by
  refine W.objInit C.1.1 C.1.2.1 C.1.2.2.2.1 (C.1.2.2.2.2 _ hw) (C.1.2.2.2.2 _ tw_89) (C.1.2.2.2.2 _ tw_90) rfl (hl.1.trans C.1.2.2.1.symm) rfl d hf (by rw [show (F0 (z_m z) pc ls (.ref a :: st)).monitorRoom = 0 from rfl]; omega) ?_
  exact W.eq (g2 := F0 (z_m z) (pc + 3) ls st) rfl (kk H locs ls hP hD hS hl)
theorem pn_ty (C : pn_C z A cc nL own) {cA : ClassId} {ty : FieldType} {i : Nat} (hi : (ps_ty (z_cs z))[i]? = some (z_cs z i, ty)) (hp : ∀ {U : State} {c : ClassId}, va_RA U c ty → U.vm.findClass ("[" ++ ty.toString) = some c) (hK : va_K (z_D z) vwCl (ps_ty (z_cs z) ++ [(cA, ty)]) (z_s z)) : cA = z_cs z i := by
  have h1 := (hK.2 (ps_ty (z_cs z)).length (cA, ty) (by rw [List.getElem?_append_right (Nat.le_refl _), Nat.sub_self]; rfl)).2
  have h2 := (C.2.1.2 i _ hi).2
  exact Option.some.inj ((hp h1).symm.trans (hp h2))
theorem pn_newa (C : pn_C z A cc nL own) {atype : ArrayType} {ty : FieldType} (i : Nat) (a0 : vp_A) {n : Int32} (N' : Nat) (hty : newarray.typeOf atype = ty) (hw : Cond.arrayClass ty ∈ tw_all) (hi : (ps_ty (z_cs z))[i]? = some (z_cs z i, ty)) (hp : ∀ {U : State} {c : ClassId}, va_RA U c ty → U.vm.findClass ("[" ++ ty.toString) = some c) (ha : ∀ cA : ClassId, vp_cell cA a0 = arrV cA N' (fun _ => defaultValue ty)) (hn : ¬ n < 0) (hN : n.toNatClampNeg = N') (hb : N' * componentBytes ty ≤ 536870912) (hc : ce + 1 ≤ (z_R z).cells) (hs : sl + N' ≤ (z_R z).slots) (d : decode cc pc = .ok (.newarray atype, 2)) (kk : ∀ q, pn_at z A nL (pc + 2) lv (.ref q :: st) (ws ++ [(q, .inl (z_cs z i, a0))]) (ce + 1) (sl + N')) : pn_at z A nL pc lv (.int n :: st) ws ce sl := fun H locs ls hP hD hS hl => va_newa C.1.1 C.1.2.1 (by rw [hty]; exact C.1.2.2.2.2 _ hw) hty C.2.1 hP hD hS C.2.2.2.2 ha hn hN hb hc hs d (fun q cA H1 hK hP hD hS => by
  have e := pn_ty C hi hp hK
  subst e
  exact kk q H1 locs ls hP hD hS hl)
theorem pn_mna (C : pn_C z A cc nL own) {idx : Nat} {n k : Int32} (N' K' : Nat) (hcl : Cond.classLink own idx "[[I" ∈ tw_all) (hn : ¬ n < 0) (hk : ¬ k < 0) (hN : n.toNatClampNeg = N') (hM : k.toNatClampNeg = K') (hb1 : N' * 4 ≤ 536870912) (hb2 : K' * 4 ≤ 536870912) (hb3 : K' ≤ 536870912) (hc : ce + (1 + N') ≤ (z_R z).cells) (hs : sl + (N' + N' * K') ≤ (z_R z).slots) (d : decode cc pc = .ok (.multianewarray idx 2, 4)) (kk : ∀ (q : Nat) (r : Nat → Nat), pn_at z A nL (pc + 4) lv (.ref q :: st) ((ws ++ [(q, .inl (z_cs z 4, N', .inr (.inr (.inr (.inr (fun i => some (r i)))))))]) ++ (List.range N').map (fun i => (r i, .inl (z_cs z 0, K', .inl (fun _ => 0))))) (ce + 1 + N') (sl + N' + N' * K')) : pn_at z A nL pc lv (.int k :: .int n :: st) ws ce sl := fun H locs ls hP hD hS hl => by
  refine va_mna (X := ws) (L := []) (f := fun _ => .inr (0, [])) (z := (K', .inl (fun _ => 0))) (ty := .int) (cy := z_cs z 0) C.1.1 C.1.2.1 C.1.2.2.2.1 (C.1.2.2.2.2 _ hcl) C.2.2.2.1 (C.1.2.2.2.2 _ tw_116) (va_nm_int (C.2.1.2 0 _ rfl).2) C.2.1 (by rw [show va_pl [] (fun _ => (.inr (0, []) : va_E)) = [] from rfl, List.append_nil]; exact hP) (by rw [show va_pl [] (fun _ => (.inr (0, []) : va_E)) = [] from rfl, List.append_nil]; exact hD) hS C.2.2.2.2 hn hk hN hM hb1 hb2 hb3 rfl rfl hc hs (fun c => ?_) d (fun q r cA H1 hr1 hr2 hK hP hD hS => ?_)
  · show ({ cls := c, slots := Array.replicate K' (.int 0), vm := .none } : Cell) = _
    exact arrV_new c K' (.int 0)
  · have e := pn_ty (i := 4) C rfl (fun h => h) hK
    subst e
    refine kk q r H1 locs ls (va_Pm.mpr (fun x hx => ?_)) (pn_D hD ?_) hS hl
    · rcases List.mem_append.mp hx with hx | hx
      · rcases List.mem_append.mp hx with hx | hx
        · exact va_Pm.mp hP x (List.mem_append_left _ (List.mem_append_left _ hx))
        · rw [List.mem_singleton] at hx
          subst hx
          exact pn_refs (va_Pm.mp hP _ (List.mem_append_left _ (List.mem_append_right _ (List.mem_singleton.mpr rfl)))) (fun j hj => by rw [if_pos hj])
      · obtain ⟨i, hi, rfl⟩ := List.mem_map.mp hx
        have hin : r i ∈ (List.range N').map r := List.mem_map.mpr ⟨i, hi, rfl⟩
        have := va_Pm.mp hP (r i, vr_up (fun _ => .inr (0, [])) ((List.range N').map r) (.inl (z_cs z 0, K', .inl (fun _ => 0))) (r i)) (List.mem_append_right _ (List.mem_map.mpr ⟨r i, by rw [List.nil_append]; exact hin, rfl⟩))
        rw [vr_up_in hin] at this
        exact this
    · unfold va_pl
      simp [List.map_append, List.map_map, Function.comp_def]
theorem pn_putF (C : pn_C z A cc nL own) (hin : (z_meth z).name = "<init>") (q0 : Nat) {a ci : Nat} {fs : List Value} {Cn : String} {T : u_T} {N index : Nat} (k : Nat) {ty : FieldType} {v : Value} (he : ws[q0]? = some (a, .inr (ci, fs))) (hc : vwCl[ci]? = some (Cn, T, N)) (htw : ∀ w ∈ u_ws Cn T N, w ∈ tw_all) (ty0 : Nat → FieldType) (hty : ∀ k, k < N → parseFieldDescriptor (T k).2.2.1 = some (ty0 k)) (hnm : ∀ a, a < N → ∀ b, b < N → a ≠ b → (T a).2.1 ≠ (T b).2.1) (hk : k < N) (hlink : Cond.fieldLink own index (T k).1 (T k).2.1 (T k).2.2.1 ∈ tw_all) (hfin : (T k).2.2.2 = true) (hdecl : (T k).1 = own) (hd : parseFieldDescriptor (T k).2.2.1 = some ty) (hn : narrow ty v = v) (hfit : fits ty v = true) (hl : k < fs.length) (d : decode cc pc = .ok (.putfield index, 3)) (hws : ws.set q0 (a, .inr (ci, fs.set k v)) = ws') (kk : pn_at z A nL (pc + 3) lv st ws' ce sl) : pn_at z A nL pc lv (v :: .ref a :: st) ws ce sl := fun H locs ls hP hD hS hl0 => va_putF C.1.1 C.1.2.1 C.1.2.2.2.2 htw ty0 hty hnm C.1.2.2.2.1 C.2.1 hP hD hS q0 he hc k hk (C.1.2.2.2.2 _ hlink) (fun _ h9 => h9) hfin hin hdecl hd hn hfit hl d (fun H1 locs1 hP hD hS => kk H1 locs1 ls (by rw [← hws]; exact hP) (by rw [← hws]; exact hD) hS hl0)
theorem pn_new (C : pn_C z A cc nL own) {idx : Nat} (ci : Nat) {Cn : String} {T : u_T} {N : Nat} (fs : List Value) (hc : vwCl[ci]? = some (Cn, T, N)) (htw : ∀ w ∈ u_ws Cn T N, w ∈ tw_all) (ty0 : Nat → FieldType) (hty : ∀ k, k < N → parseFieldDescriptor (T k).2.2.1 = some (ty0 k)) (h1 : Cond.classLink own idx Cn ∈ tw_all) (h2 : Cond.instantiable Cn N ∈ tw_all) (h3 : Cond.initialized Cn ∈ tw_all) (hfs : ∀ j, j < N → defaultValue (ty0 j) = vp_V fs j) (hce : ce + 1 ≤ (z_R z).cells) (hsl : sl + N ≤ (z_R z).slots) (d : decode cc pc = .ok (.new idx, 3)) (kk : ∀ q, pn_at z A nL (pc + 3) lv (.ref q :: st) (ws ++ [(q, .inr (ci, fs))]) (ce + 1) (sl + N)) : pn_at z A nL pc lv st ws ce sl := fun H locs ls hP hD hS hl => va_new C.1.1 C.1.2.1 C.1.2.2.2.2 htw ty0 hty C.1.2.2.2.1 (C.1.2.2.2.2 _ h1) (C.1.2.2.2.2 _ h2) (C.1.2.2.2.2 _ h3) C.2.1 hP hD hS C.2.2.2.2 hc hfs hce hsl d (fun q H1 hP hD hS => kk q H1 locs ls hP hD hS hl)
theorem pn_newaC (C : pn_C z A cc nL own) {x0 : Nat × va_E} {R : va_W} {atype : ArrayType} {ty : FieldType} (i : Nat) (a0 : vp_A) {n : Int32} (N' ce' sl' : Nat) (hty : newarray.typeOf atype = ty) (hw : Cond.arrayClass ty ∈ tw_all) (hi : (ps_ty (z_cs z))[i]? = some (z_cs z i, ty)) (hp : ∀ {U : State} {c : ClassId}, va_RA U c ty → U.vm.findClass ("[" ++ ty.toString) = some c) (ha : ∀ cA : ClassId, vp_cell cA a0 = arrV cA N' (fun _ => defaultValue ty)) (hn : ¬ n < 0) (hN : n.toNatClampNeg = N') (hb : N' * componentBytes ty ≤ 536870912) (hce : ce + 1 = ce') (hsl : sl + N' = sl') (hc : ce' ≤ (z_R z).cells) (hs : sl' ≤ (z_R z).slots) (d : decode cc pc = .ok (.newarray atype, 2)) (kk : ∀ (q : Nat) (R' : va_W), R' = R ++ [(q, .inl (z_cs z i, a0))] → pn_at z A nL (pc + 2) lv (.ref q :: st) (x0 :: R') ce' sl') : pn_at z A nL pc lv (.int n :: st) (x0 :: R) ce sl := by
  subst hce hsl
  exact pn_newa C i a0 N' hty hw hi hp ha hn hN hb hc hs d (fun q => kk q _ rfl)
def pn_Pre (D : va_G) (cs : Nat → ClassId) (ws : va_W) (sz : Nat) (U : State) : Prop := U.heap.size = sz ∧ va_P D vwCl ws U.heap ∧ va_K D vwCl (ps_ty cs) U ∧ ps_N U ∧ va_AOA .int U
theorem pn_blind {D : va_G} {cs : Nat → ClassId} {ws : va_W} {sz : Nat} {av : List Value} : FrameBlind (va_Pc av (pn_Pre D cs ws sz)) := fun a U g mk q => by
  obtain ⟨q0, q1, qP, qK, qN, qA⟩ := q
  exact ⟨q0, q1, qP, va_K.moved (u := U) (U := U.calling g mk a) (Vm.Alike.refl U.vm) qK, qN.same rfl, va_AOA.moved (u := U) (U := U.calling g mk a) (Vm.Alike.refl U.vm) qA⟩
/-- a constructor: from its new object to a world of its own -/
def pn_M {S : Type} (l : Launch) (y : MethodName) (cc : ByteArray) (rm : Room) (D : va_G) (cs : Nat → ClassId) (ci : Nat) (fs : List Value) (post : Nat → S → Prop) (w : S → va_W) (mc ms : Nat) : Prop := ∀ h0 sz, h0 < sz → Met l y (ps_wm y cc 1 none) rm (va_Pc [.ref h0] (pn_Pre D cs [(h0, .inr (ci, fs))] sz)) (va_Qv (post h0) (fun u t => va_P D vwCl (w u) t.heap ∧ va_D (pn_A h0 sz) (w u)) (pn_A h0 sz)) mc ms (pn_A h0 sz)
theorem pn_met {S : Type} {l : Launch} {D : va_G} {cs : Nat → ClassId} (y : MethodName) (rm : Room) {own : String} {cc : ByteArray} {ci mc ms : Nat} {fs : List Value} {post : Nat → S → Prop} {w : S → va_W} (hy : plainName y.cls = true) (ho : y.cls = own) (hi : y.name = "<init>")
    (body : ∀ (z : ps_X) (h0 : Nat), z_R z = rm → z_l z = l → z_D z = D → z_cs z = cs → pn_C z (pn_A h0 (z_s z).heap.size) cc 1 own → (z_meth z).name = "<init>" → (∀ (pc : Nat) (lv : List (Nat × Value)) (u : S) (ce sl : Nat), post h0 u → decode cc pc = .ok (.return_, 1) → ce ≤ mc → sl ≤ ms → pn_at z (pn_A h0 (z_s z).heap.size) 1 pc lv [] (w u) ce sl) → pn_at z (pn_A h0 (z_s z).heap.size) 1 0 [(0, .ref h0)] [] [(h0, .inr (ci, fs))] 0 0) : pn_M l y cc rm D cs ci fs post w mc ms := by
  intro h0 sz hlt
  refine Met.ofW (cc := cc) (maxL := 1) (ret := none) hy rfl ?_
  intro p e s m args below meth c s₁ B hml hv
  obtain ⟨rfl, hsz, hP, hK, hN, hO⟩ := hv
  have hts := atoms_spec (ws := ps_wm y cc 1 none) B.pre
  have hown : s.vm.findClass own = some m.cls := by rw [← ho]; exact findClass_of_methodNamed B.named
  have hlocks := B.notSynchronized
  have hr := B.returns
  have hin : meth.name = "<init>" := (name_of_methodNamed B.named B.method).1.trans hi
  subst hsz
  have C : ∀ Q, pn_C (s, rm, l, p, e, m, ([.ref h0] : List Value).toArray, below, meth, c, 0, 0, Q, (D, cs, fun _ => 0, fun _ => 0, fun _ => 0)) (pn_A h0 s.heap.size) cc 1 own := fun _ => ⟨⟨B.exec, B.bytes, hml, hown, fun w h => hts w (List.mem_cons_of_mem _ h)⟩, hK, hN, hO, fun q h => Or.inr h⟩
  have hl := lv_entry ([.ref h0] : List Value) (n := 1) (Nat.le_of_ble_eq_true rfl)
  rw [lg_entry_eq]
  refine body (s, rm, l, p, e, m, ([.ref h0] : List Value).toArray, below, meth, c, 0, 0, _, (D, cs, fun _ => 0, fun _ => 0, fun _ => 0)) h0 rfl rfl rfl rfl (C _) hin (fun pc lv u ce sl hu d h1 h2 H locs ls hP hD hS hl => ?_) s.heap [] _ hP ⟨fun i j p q hp hq _ => ?_, fun k q hq => ?_⟩ va_S.rf hl
  · refine W.widen (k := mc) (n := ms) h1 h2 ?_
    exact W.vret B.exec B.bytes hr (fun t ht hW => ⟨⟨u, rfl, hu, by rw [ht]; exact hP, hD⟩, hS.F ht⟩) hS.2.2 d hlocks
  · have h1 : i < 1 := (List.getElem?_eq_some_iff.mp hp).1
    have h2 : j < 1 := (List.getElem?_eq_some_iff.mp hq).1
    omega
  · have h1 : k < 1 := (List.getElem?_eq_some_iff.mp hq).1
    have : k = 0 := by omega
    subst this
    cases hq
    exact Or.inl rfl
/-- a call of a nest mate's constructor, on the object that came last -/
theorem pn_callN {S : Type} (C : pn_C z A cc nL own) {y : MethodName} {rm : Room} {c2 : ByteArray} {idx q ci mc ms : Nat} {fs : List Value} {post : Nat → S → Prop} {w : S → va_W} {wr : va_W} (M : pn_M (z_l z) y c2 rm (z_D z) (z_cs z) ci fs post w mc ms) {host : String} (h1 : (own, idx, y, host) ∈ ps_nt) (h2 : Cond.instanceMethod y ∈ tw_all) (h4 : Cond.initialized y.cls ∈ tw_all) (h5 : Cond.code y c2 1 none ∈ tw_all) (hy1 : y.name = "<init>") (hd : y.cls ≠ "java/lang/invoke/MethodHandle" ∧ y.cls ≠ "java/lang/invoke/VarHandle" ∧ (parseMethodDescriptor y.desc).map (fun d => d.parameters.length) = some 0) (hrc : rm.cells = mc) (hrs : rm.slots = ms) (hR : rm.frames + 1 ≤ (z_R z).frames ∧ 8 + (1 + 11) + rm.locals ≤ (z_R z).locals) (hcat : (st.map fun v => v.category).sum ≤ 8) (hce : ce + mc ≤ (z_R z).cells) (hsl : sl + ms ≤ (z_R z).slots) (d : decode cc pc = .ok (.invokespecial idx, 3)) (kk : ∀ u, post q u → pn_at z A nL (pc + 3) lv st (wr ++ w u) (ce + mc) (sl + ms)) : pn_at z A nL pc lv (.ref q :: st) (wr ++ [(q, .inr (ci, fs))]) ce sl := by
  intro H locs ls hP hD hS hl
  have hql : (wr ++ [(q, (.inr (ci, fs) : va_E))])[wr.length]? = some (q, .inr (ci, fs)) := by rw [List.getElem?_append_right (Nat.le_refl _), Nat.sub_self]; rfl
  have hAq : A q := hD.2 wr.length _ hql
  have hqs : q < H.size := (hP wr.length _ hql).lt
  have hA : ∀ r, pn_A q H.size r → A r := fun r h => h.elim (fun h => by rw [h]; exact hAq) (fun h => C.2.2.2.2 r (Nat.le_trans hS.1 h))
  have hP1 : va_P (z_D z) vwCl [(q, .inr (ci, fs))] H := va_Pm.mpr (fun x hx => va_Pm.mp hP x (List.mem_append_right _ hx))
  refine va_callv (va_runIN (As := []) (rest := st) C.1 (M q H.size hqs) ⟨va_cnB 0 C.1.2.2.2.2 (ps_tM h5) rfl hrc hrs (C.2.2.1 _ h1) (C.1.2.2.2.2 _ h4) hd hR, hy1, C.1.2.2.2.2 _ h2⟩ ⟨pn_blind, fun U hU hW => ⟨rfl, by rw [hU], by rw [hU]; exact hP1, va_K.moved hW.alike C.2.1, C.2.2.1.warm hW, C.2.2.2.1.moved hW.alike⟩⟩ rfl rfl hl.1 rfl (lv_room hcat) d ⟨hce, hsl⟩) hS (fun r _ h => hA r h) hA (fun u t H1 locs1 ht hvm hw hB hz hk1 hS1 => ?_)
  rw [ht] at hB
  obtain ⟨j1, j2⟩ := pn_join hP hD hk1 hB.1 hB.2 (fun r h => C.2.2.2.2 r (Nat.le_trans hS.1 h))
  exact kk u hw H1 locs1 ls j1 j2 hS1 hl
/-- .. of a public one -/
theorem pn_callP {S : Type} (C : pn_C z A cc nL own) {y : MethodName} {rm : Room} {c2 : ByteArray} {idx q ci mc ms : Nat} {fs : List Value} {post : Nat → S → Prop} {w : S → va_W} {wr : va_W} (M : pn_M (z_l z) y c2 rm (z_D z) (z_cs z) ci fs post w mc ms) (h1 : Cond.methodLink own idx y ∈ tw_all) (h2 : Cond.instanceMethod y ∈ tw_all) (h4 : Cond.initialized y.cls ∈ tw_all) (h5 : Cond.code y c2 1 none ∈ tw_all) (hy1 : y.name = "<init>") (hd : y.cls ≠ "java/lang/invoke/MethodHandle" ∧ y.cls ≠ "java/lang/invoke/VarHandle" ∧ (parseMethodDescriptor y.desc).map (fun d => d.parameters.length) = some 0) (hrc : rm.cells = mc) (hrs : rm.slots = ms) (hR : rm.frames + 1 ≤ (z_R z).frames ∧ 8 + (1 + 11) + rm.locals ≤ (z_R z).locals) (hcat : (st.map fun v => v.category).sum ≤ 8) (hce : ce + mc ≤ (z_R z).cells) (hsl : sl + ms ≤ (z_R z).slots) (d : decode cc pc = .ok (.invokespecial idx, 3)) (kk : ∀ u, post q u → pn_at z A nL (pc + 3) lv st (wr ++ w u) (ce + mc) (sl + ms)) : pn_at z A nL pc lv (.ref q :: st) (wr ++ [(q, .inr (ci, fs))]) ce sl := by
  intro H locs ls hP hD hS hl
  have hql : (wr ++ [(q, (.inr (ci, fs) : va_E))])[wr.length]? = some (q, .inr (ci, fs)) := by rw [List.getElem?_append_right (Nat.le_refl _), Nat.sub_self]; rfl
  have hAq : A q := hD.2 wr.length _ hql
  have hqs : q < H.size := (hP wr.length _ hql).lt
  have hA : ∀ r, pn_A q H.size r → A r := fun r h => h.elim (fun h => by rw [h]; exact hAq) (fun h => C.2.2.2.2 r (Nat.le_trans hS.1 h))
  have hP1 : va_P (z_D z) vwCl [(q, .inr (ci, fs))] H := va_Pm.mpr (fun x hx => va_Pm.mp hP x (List.mem_append_right _ hx))
  refine va_callv (va_runI (As := []) (rest := st) C.1 (M q H.size hqs) (cwI 0 C.1.2.2.2.2 (ps_tM h5) rfl hrc hrs (C.1.2.2.2.2 _ h4) (C.1.2.2.2.2 _ h1) (C.1.2.2.2.2 _ h2) hy1 hd hR) ⟨pn_blind, fun U hU hW => ⟨rfl, by rw [hU], by rw [hU]; exact hP1, va_K.moved hW.alike C.2.1, C.2.2.1.warm hW, C.2.2.2.1.moved hW.alike⟩⟩ rfl rfl hl.1 rfl (lv_room hcat) d ⟨hce, hsl⟩) hS (fun r _ h => hA r h) hA (fun u t H1 locs1 ht hvm hw hB hz hk1 hS1 => ?_)
  rw [ht] at hB
  obtain ⟨j1, j2⟩ := pn_join hP hD hk1 hB.1 hB.2 (fun r h => C.2.2.2.2 r (Nat.le_trans hS.1 h))
  exact kk u hw H1 locs1 ls j1 j2 hS1 hl
end PN
