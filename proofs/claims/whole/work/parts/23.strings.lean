section PST
variable {z : ps_X} {cc : ByteArray} {nL : Nat} {own : String} {pc : Nat} {lv lv' : List (Nat × Value)} {st st0 : List Value} {σ σ' : ps_S}
theorem ps_compact (C : ps_C z cc nL own) {idx : Nat} (hw : Cond.fieldLink own idx "java/lang/String" "COMPACT_STRINGS" "Z" ∈ tw_all) (d : decode cc pc = .ok (.getstatic idx, 3)) (kk : ps_at z nL (pc + 3) lv (.int 1 :: st) σ) : ps_at z nL pc lv st σ := fun H locs ls hP hS hl => va_gets C.1.1 C.1.2.1 C.2.2.2.2.2.2.2.2.1 hS C.1.2.2.2.1 (C.1.2.2.2.2 _ hw) (fun _ h => h) d (kk H locs ls hP hS hl)
theorem ps_former (C : ps_C z cc nL own) {idx : Nat} (hw : Cond.fieldLink own idx "jdk/internal/util/Preconditions" "SIOOBE_FORMATTER" "Ljava/util/function/BiFunction;" ∈ tw_all) (d : decode cc pc = .ok (.getstatic idx, 3)) (kk : ∀ q : Option Nat, ps_at z nL (pc + 3) lv (va_rf q :: st) σ) : ps_at z nL pc lv st σ := fun H locs ls hP hS hl => by
  rcases C.2.2.2.2.2.2.2.2.2 with h | ⟨t, h⟩
  · exact va_gets C.1.1 C.1.2.1 h hS C.1.2.2.2.1 (C.1.2.2.2.2 _ hw) (fun _ h => h) d (kk none H locs ls hP hS hl)
  · exact va_gets C.1.1 C.1.2.1 h hS C.1.2.2.2.1 (C.1.2.2.2.2 _ hw) (fun _ h => h) d (kk (some t) H locs ls hP hS hl)
theorem ps_ldcS0 (C : ps_C z cc nL "PartSums$Reader") (d : decode cc pc = .ok (.ldc 46, 2)) (kk : ps_at z nL (pc + 2) lv (.ref (e_K (z_E z) 0) :: st) σ) : ps_at z nL pc lv st σ := fun H locs ls hP hS hl => va_ldcS C.1.1 C.1.2.1 C.1.2.2.2.1 C.2.2.2.2.2.1 d (kk H locs ls hP hS hl)
theorem ps_ldcS1 (C : ps_C z cc nL "PartSums$Reader") (d : decode cc pc = .ok (.ldc 59, 2)) (kk : ps_at z nL (pc + 2) lv (.ref (e_K (z_E z) 1) :: st) σ) : ps_at z nL pc lv st σ := fun H locs ls hP hS hl => va_ldcS C.1.1 C.1.2.1 C.1.2.2.2.1 C.2.2.2.2.2.2.1 d (kk H locs ls hP hS hl)
theorem ps_ldcS2 (C : ps_C z cc nL "PartSums$Reader") (d : decode cc pc = .ok (.ldc 64, 2)) (kk : ps_at z nL (pc + 2) lv (.ref (e_K (z_E z) 2) :: st) σ) : ps_at z nL pc lv st σ := fun H locs ls hP hS hl => va_ldcS C.1.1 C.1.2.1 C.1.2.2.2.1 C.2.2.2.2.2.2.2.1 d (kk H locs ls hP hS hl)
theorem ps_tval (C : ps_C z cc nL own) (i : Nat) (hi : i < 3) {idx : Nat} (hw : Cond.fieldLink own idx "java/lang/String" "value" "[B" ∈ tw_all) (d : decode cc pc = .ok (.getfield idx, 3)) (kk : ps_at z nL (pc + 3) lv (.ref (e_V (z_E z) i) :: st) σ) : ps_at z nL pc lv (.ref (e_K (z_E z) i) :: st) σ := fun H locs ls hP hS hl => vk_getf C.1.1 C.1.2.1 (C.2.2.2.2.1.1 i hi).2.2.1 hS C.1.2.2.2.1 (C.1.2.2.2.2 _ hw) (fun _ h => h) d (kk H locs ls hP hS hl)
theorem ps_tcod (C : ps_C z cc nL own) (i : Nat) (hi : i < 3) {idx : Nat} (hw : Cond.fieldLink own idx "java/lang/String" "coder" "B" ∈ tw_all) (d : decode cc pc = .ok (.getfield idx, 3)) (kk : ps_at z nL (pc + 3) lv (.int 0 :: st) σ) : ps_at z nL pc lv (.ref (e_K (z_E z) i) :: st) σ := fun H locs ls hP hS hl => vk_getf C.1.1 C.1.2.1 (C.2.2.2.2.1.1 i hi).2.1 hS C.1.2.2.2.1 (C.1.2.2.2.2 _ hw) (fun _ h => h) d (kk H locs ls hP hS hl)
theorem ps_tln (C : ps_C z cc nL own) (i : Nat) (hi : i < 3) (d : decode cc pc = .ok (.arraylength, 1)) (kk : ps_at z nL (pc + 1) lv (.int (nI (ps_tl.getD i 0)) :: st) σ) : ps_at z nL pc lv (.ref (e_V (z_E z) i) :: st) σ := fun H locs ls hP hS hl => va_tlen C.1.1 C.1.2.1 (C.2.2.2.2.1.1 i hi).2.2.2 hS rfl d (kk H locs ls hP hS hl)
theorem ps_tbl (C : ps_C z cc nL own) (i : Nat) (hi : i < 3) {j : Int32} (hj : vp_in j (ps_tl.getD i 0)) (d : decode cc pc = .ok (.baload, 1)) (kk : ps_at z nL (pc + 1) lv (.int ((ps_tb.getD i []).getD j.toNatClampNeg 0) :: st) σ) : ps_at z nL pc lv (.int j :: .ref (e_V (z_E z) i) :: st) σ := fun H locs ls hP hS hl => va_tb C.1.1 C.1.2.1 (C.2.2.2.2.1.1 i hi).2.2.2 hS hj rfl d (kk H locs ls hP hS hl)
theorem ps_metT {l : Launch} {E : ps_E} (y : MethodName) (rm : Room) (maxL : Nat) (ty : FieldType) {own : String} {av : List Value} {lv0 : List (Nat × Value)} (r : Int32) (hn : narrow ty (.int r) = .int r) (hy : plainName y.cls = true) (ho : y.cls = own) (hlen : (lg_sl av).length ≤ maxL) (hl0 : lv_args 0 av = lv0)
    (body : ∀ (z : ps_X), z_R z = rm → z_l z = l → z_cells z = 0 → z_slots z = 0 → z_E z = E → ps_C z cc maxL own → ps_KI z maxL cc r σ' → ps_at z maxL 0 lv0 [] σ) : ps_MI l y (ps_wm y cc maxL (some ty)) rm av E σ r σ' := by
  intro sz
  refine Met.ofW (cc := cc) (maxL := maxL) (ret := some ty) hy rfl ?_
  intro p e s m args below meth c s₁ B hml hv
  obtain ⟨rfl, hsz, hP, hK, hJ, hN, hT⟩ := hv
  have hts := atoms_spec (ws := ps_wm y cc maxL (some ty)) B.pre
  have hown : s.vm.findClass own = some m.cls := by rw [← ho]; exact findClass_of_methodNamed B.named
  have hlocks := B.notSynchronized
  have hr := B.returns
  subst hsz
  have C : ∀ Q, ps_C (s, rm, l, p, e, m, av.toArray, below, meth, c, 0, 0, Q, E) cc maxL own := fun _ => ⟨⟨B.exec, B.bytes, hml, hown, fun w h => hts w (List.mem_cons_of_mem _ h)⟩, hK, hJ, hN, hT⟩
  have hl := lv_entry av (n := maxL) hlen
  rw [lg_entry_eq]
  rw [hl0] at hl
  refine body (s, rm, l, p, e, m, av.toArray, below, meth, c, 0, 0, _, E) rfl rfl rfl rfl rfl (C _) (fun pc lv d H locs ls hP hS hl => ?_) s.heap [] _ hP va_S.rf hl
  exact W.zret (v := r) (ty := ty) B.exec B.bytes hr hn (fun t ht hW => ⟨⟨r, σ', rfl, ⟨rfl, rfl⟩, by unfold ps_B; rw [ht]; exact hP⟩, hS.F ht⟩) hS.2.2 d hlocks
theorem ps_callTI (C : ps_C z cc nL own) {f9 n9 : Nat} (Z : ps_Z z f9 n9) {y : MethodName} {rm : Room} {c2 : ByteArray} {maxL n idx : Nat} (i : Nat) (hi : i < 3) {ret : Option FieldType} {As : List Value} {r : Int32} (M : ps_MI (z_l z) y (ps_wm y c2 maxL ret) rm (.ref (e_K (z_E z) i) :: As) (z_E z) σ r σ') (hC : y.cls = "java/lang/String") (h1 : Cond.methodLink own idx y ∈ tw_all) (h2 : Cond.instanceMethod y ∈ tw_all) (h3 : Cond.selects "java/lang/String" y y ∈ tw_all) (h4 : Cond.initialized "java/lang/String" ∈ tw_all) (h5 : Cond.code y c2 maxL ret ∈ tw_all) (hd : y.cls ≠ "java/lang/invoke/MethodHandle" ∧ y.cls ≠ "java/lang/invoke/VarHandle" ∧ (parseMethodDescriptor y.desc).map (fun d => d.parameters.length) = some n) (hrc : rm.cells = 0) (hrs : rm.slots = 0) (hR : rm.frames + 1 ≤ f9 ∧ 8 + (maxL + 11) + rm.locals ≤ n9) (hn : As.length = n) (hcat : (st.map fun v => v.category).sum ≤ 8) (d : decode cc pc = .ok (.invokevirtual idx, 3)) (hst : st0 = As.reverse ++ .ref (e_K (z_E z) i) :: st) (kk : ps_at z nL (pc + 3) lv (.int r :: st) σ') : ps_at z nL pc lv st0 σ := by
  intro H locs ls hP hS hl
  subst hst
  have hA : ∀ q, ps_A (z_ad z) H.size q → ps_A (z_ad z) (z_s z).heap.size q := fun q h => h.elim Or.inl (fun h => Or.inr (Nat.le_trans hS.1 h))
  refine va_calli (va_runV (As := As) (rest := st) C.1 (M H.size) (cwV n C.1.2.2.2.2 (ps_tV h1 h2 h3 h4 h5) rfl hrc hrs ⟨hC, hd⟩ ⟨Nat.le_trans hR.1 Z.1, Nat.le_trans hR.2 Z.2.1⟩) ⟨ps_blind, vk_recv C.2.2.2.2.1 hi hS, fun U hU hW => ⟨rfl, by rw [hU], by rw [hU]; exact hP, va_K.moved hW.alike C.2.1, C.2.2.1, C.2.2.2.1.warm hW, C.2.2.2.2.go hW hU hS.2.1 hA⟩⟩ rfl hn hl.1 rfl (lv_room hcat) d Z.2.2) hS (fun q _ h => hA q h) hA (fun r2 u t H1 locs1 ht hvm hw hB hz hk1 hS1 => ?_)
  obtain ⟨rfl, rfl⟩ := hw
  exact kk H1 locs1 ls (by rw [← ht]; exact hB) hS1 hl
end PST
