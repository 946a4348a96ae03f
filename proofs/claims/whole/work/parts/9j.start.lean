/-! what the tables and the start say: classes, array classes, nest mates' links, String constants, statics -/
theorem st_nt : ∀ q ∈ ps_nt, Cond.methodLinkNest q.1 q.2.1 q.2.2.1 q.2.2.2 ∈ lw_tbl := by decide +kernel
theorem st_ao : Cond.arrayOver (.array .int) ∈ lw_tbl := by decide +kernel
theorem st_K {args : Array Value} {s : State} (hts : ∀ w ∈ lw_tbl, w.before args s = true) : ∃ (D : va_G) (cs : Nat → ClassId), va_K D vwCl (ps_ty cs) s ∧ ps_N s ∧ va_AOA .int s := by
  have htw : ∀ w ∈ tw_all, w.before args s = true := fun w h => hts w (tw_sub w h)
  obtain ⟨c0, i0, h0⟩ := u_known (C := RX0) (T := TX0) (N := 7) (n := 7) htw tw_inX0 (htw _ tw_118)
  obtain ⟨c1, i1, h1⟩ := u_known (C := RX1) (T := TX1) (N := 4) (n := 4) htw tw_inX1 (htw _ tw_92)
  obtain ⟨c2, i2, h2⟩ := u_known (C := RX2) (T := TX2) (N := 10) (n := 10) htw tw_inX2 (htw _ tw_149)
  obtain ⟨c3, i3, h3⟩ := u_known (C := RX3) (T := TX3) (N := 2) (n := 2) htw tw_inX3 (htw _ tw_193)
  obtain ⟨c4, i4, h4⟩ := u_known (C := RX4) (T := TX4) (N := 9) (n := 9) htw tw_inX4 (htw _ tw_84)
  obtain ⟨c5, i5, h5⟩ := u_known (C := RX5) (T := TX5) (N := 24) (n := 24) htw tw_inX5 (htw _ tw_785)
  obtain ⟨a0, k0, p0, f0, g0, e0⟩ := Cond.arrayClass_spec (htw _ tw_116)
  obtain ⟨a1, k1, p1, f1, g1, e1⟩ := Cond.arrayClass_spec (htw _ tw_147)
  obtain ⟨a2, k2, p2, f2, g2, e2⟩ := Cond.arrayClass_spec (htw _ tw_191)
  obtain ⟨a3, k3, p3, f3, g3, e3⟩ := Cond.arrayClass_spec (htw _ tw_869)
  obtain ⟨p4, a4, k4, -, -, g4, e4, f4⟩ := pn_aoS (t := .int) (hts _ st_ao)
  refine ⟨(fun k => [c0, c1, c2, c3, c4, c5].getD k 0, fun k => [i0, i1, i2, i3, i4, i5].getD k (fun _ => 0)), fun k => [a0, a1, a2, a3, a4].getD k 0, ⟨fun c q hq => ?_, fun k q hq => ?_⟩, fun q hq => va_Nw.of rfl (hts _ (st_nt q hq)), va_AOA.of (hts _ st_ao)⟩
  · match c, hq with
    | 0, hq => cases hq; exact h0
    | 1, hq => cases hq; exact h1
    | 2, hq => cases hq; exact h2
    | 3, hq => cases hq; exact h3
    | 4, hq => cases hq; exact h4
    | 5, hq => cases hq; exact h5
    | n + 6, hq => cases hq
  · match k, hq with
    | 0, hq => cases hq; exact ⟨fun n z => ⟨fun k h => (by cases h), k0, g0, p0, e0⟩, f0⟩
    | 1, hq => cases hq; exact ⟨fun n z => ⟨fun k h => (by cases h), k1, g1, p1, e1⟩, f1⟩
    | 2, hq => cases hq; exact ⟨fun n z => ⟨fun k h => (by cases h), k2, g2, p2, e2⟩, f2⟩
    | 3, hq => cases hq; exact ⟨fun n z => ⟨fun k h => (by cases h), k3, g3, p3, e3⟩, f3⟩
    | 4, hq => cases hq; exact ⟨fun n z => ⟨fun k h => (by cases h), k4, g4, p4, e4⟩, f4⟩
    | n + 5, hq => cases hq
abbrev st_tm (i : Nat) : Term := Term.string "PartSums$Reader" (([46, 59, 64] : List Nat).getD i 0)
abbrev st_fl : List Cond := flatC (Jvm.Cond.and given_1 narrow_1)
theorem st_t1 : ∀ i, i < 3 → Cond.exactly (st_tm i) "java/lang/String" ∈ st_fl := by decide +kernel
theorem st_t2 : ∀ i, i < 3 → Cond.eq (.field (st_tm i) "java/lang/String" "coder" "B") (.int 0) ∈ st_fl := by decide +kernel
theorem st_t3 : ∀ i, i < 3 → Cond.arrayOf (.field (st_tm i) "java/lang/String" "value" "[B") .byte ∈ st_fl := by decide +kernel
theorem st_t4 : ∀ i, i < 3 → Cond.eq (.length (.field (st_tm i) "java/lang/String" "value" "[B")) (.int (Int32.ofNat (ps_tl.getD i 0))) ∈ st_fl := by decide +kernel
theorem st_t5 : ∀ i, i < 3 → ∀ j, j < ps_tl.getD i 0 → Cond.eq (.elem (.field (st_tm i) "java/lang/String" "value" "[B") (.int (Int32.ofNat j))) (.int ((ps_tb.getD i []).getD j 0)) ∈ st_fl := by decide +kernel
theorem st_t6 : ∀ i, i < 3 → ∀ j, j < 3 → i ≠ j → Cond.not (Cond.eq (st_tm i) (st_tm j)) ∈ st_fl ∨ Cond.not (Cond.eq (st_tm j) (st_tm i)) ∈ st_fl := by decide +kernel
theorem st_t7 : Cond.eq (.static "java/lang/String" "COMPACT_STRINGS" "Z") (.int 1) ∈ st_fl := by decide +kernel
theorem st_t8 : Cond.isRef (.static "jdk/internal/util/Preconditions" "SIOOBE_FORMATTER" "Ljava/util/function/BiFunction;") ∈ st_fl := by decide +kernel
theorem st_t9 : Cond.exactly (.string "PartSums" 195) "java/lang/String" ∈ st_fl := by decide +kernel
theorem st_ta : Cond.isRef (.static Bundle.tN "UNASSIGNED_STACK" Bundle.steD) ∈ st_fl := by decide +kernel
theorem st_tb : Cond.isRef (.static Bundle.tN "SUPPRESSED_SENTINEL" Bundle.listD) ∈ st_fl := by decide +kernel
abbrev st_ws : List Cond := [.laysStatic "java/lang/String" "COMPACT_STRINGS" "Z", .laysStatic "jdk/internal/util/Preconditions" "SIOOBE_FORMATTER" "Ljava/util/function/BiFunction;", .laysStatic Bundle.tN "UNASSIGNED_STACK" Bundle.steD, .laysStatic Bundle.tN "SUPPRESSED_SENTINEL" Bundle.listD, .stringRef "PartSums$Reader" 46 "things", .stringRef "PartSums$Reader" 59 "set", .stringRef "PartSums$Reader" 64 "pair", .stringRef "PartSums" 195 "there is no such set of a cheapest parting", .declares (Bundle.initS "java/lang/RuntimeException"), .declares (Bundle.initS "java/lang/Exception"), .declares (Bundle.initS "java/lang/Throwable"), .castable nE nE, .initialized "java/lang/String", .initialized "jdk/internal/util/Preconditions", .initialized Bundle.tN]
theorem st_w : ∀ w ∈ st_ws, w ∈ lw_tbl := by decide +kernel
theorem st_T {args : Array Value} {s : State} {A : Nat → Prop} (hts : ∀ w ∈ lw_tbl, w.before args s = true) (hg : (Jvm.Cond.and given_1 narrow_1).before args s = true) (hA : ∀ a : Nat, a < s.heap.size → ¬ A a) (D : va_G) (cs : Nat → ClassId) : ∃ (K V : Nat → Nat) (sa : Nat), (∀ ad, ps_T (D, cs, ad, K, V) A s s.heap) ∧ ps_F sa A s s.heap := by
  have hf := flat_of_before _ hg
  have hw : ∀ (i : Nat) (w : Cond), st_ws[i]? = some w → w.before args s = true := fun i w h => hts w (st_w w (List.mem_of_getElem? h))
  obtain ⟨K, V, hS, hev⟩ := vk_Sof (args := args) (s := s) (N := 3) (tm := st_tm) (len := ps_tl) (byt := ps_tb) (A := A) (by decide) (fun i hi => hf _ (st_t1 i hi)) (fun i hi => hf _ (st_t2 i hi)) (fun i hi => hf _ (st_t3 i hi)) (fun i hi => hf _ (st_t4 i hi)) (fun i hi j hj => hf _ (st_t5 i hi j hj)) (fun i j hi hj hn => (st_t6 i hi j hj hn).imp (fun h => hf _ h) (fun h => hf _ h)) hA
  obtain ⟨sa, -, -, -, q1, -⟩ := Cond.exactly_spec (args := args) (first := s) (o := none) (s := s) (idx := []) (t := .string "PartSums" 195) (cls := "java/lang/String") (hf _ st_t9)
  refine ⟨K, V, sa, fun ad => ⟨hS, vk_R.of (hw 4 _ rfl) (hev 0 (by decide)), vk_R.of (hw 5 _ rfl) (hev 1 (by decide)), vk_R.of (hw 6 _ rfl) (hev 2 (by decide)), va_Zof (hw 0 _ rfl) (hw 12 _ rfl) (va_eqt (hf _ st_t7)) hA, va_Zqof (hw 1 _ rfl) (hw 13 _ rfl) (hf _ st_t8) hA⟩, ?_⟩
  exact ⟨vk_R.of (hw 7 _ rfl) q1, vx_Zqof (hw 2 _ rfl) (hw 14 _ rfl) (hf _ st_ta) hA, vx_Zqof (hw 3 _ rfl) (hw 14 _ rfl) (hf _ st_tb) hA, va_Nw.of rfl (hw 8 _ rfl), va_Nw.of rfl (hw 9 _ rfl), va_Nw.of rfl (hw 10 _ rfl), va_Nw.of rfl (hw 11 _ rfl)⟩
