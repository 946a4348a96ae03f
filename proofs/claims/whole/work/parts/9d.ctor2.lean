/-! the six constructors -/
def gG_w (cs : Nat → ClassId) (u : Nat × Nat × (Nat → Nat)) : va_W := [(u.1, .inr (1, [.int 0, .long 0, .int 0, .ref u.2.1])), (u.2.1, .inl (cs 4, 5, .inr (.inr (.inr (.inr (fun i => some (u.2.2 i))))))), (u.2.2 0, .inl (cs 0, 256, .inl (fun _ => 0))), (u.2.2 1, .inl (cs 0, 256, .inl (fun _ => 0))), (u.2.2 2, .inl (cs 0, 256, .inl (fun _ => 0))), (u.2.2 3, .inl (cs 0, 256, .inl (fun _ => 0))), (u.2.2 4, .inl (cs 0, 256, .inl (fun _ => 0)))]
set_option maxHeartbeats 8000000 in
set_option maxRecDepth 4096 in
theorem k_G (l : Launch) (D : va_G) (cs : Nat → ClassId) : pn_M l yX1_init cX1_init { frames := 1, cells := 6, slots := 1285, locals := 12 } D cs 1 [.int 0, .long 0, .int 0, .null] (fun h0 (u : Nat × Nat × (Nat → Nat)) => u.1 = h0) (gG_w cs) 6 1285 := by
  refine pn_met yX1_init _ (own := "PartSums$Ground") (by decide) rfl rfl ?_
  intro z h0 hR hl hD hcs C hin K
  subst hcs
  refine pn_aload C dX1_init_0 0 rfl ?_
  refine pn_obj C tw_96 (by rw [hR]; exact Nat.le_of_ble_eq_true rfl) (by rw [hR]; exact Nat.le_of_ble_eq_true rfl) dX1_init_1 ?_
  refine pn_aload C dX1_init_4 0 rfl ?_
  refine pn_iconst (v := 5) C dX1_init_5 (by decide) ?_
  refine pn_sipush (v := 256) C dX1_init_6 (by decide) ?_
  refine pn_mna C 5 256 tw_97 (by decide) (by decide) (by decide) (by decide) (Nat.le_of_ble_eq_true rfl) (Nat.le_of_ble_eq_true rfl) (Nat.le_of_ble_eq_true rfl) (by rw [hR]; exact Nat.le_of_ble_eq_true rfl) (by rw [hR]; exact Nat.le_of_ble_eq_true rfl) dX1_init_9 (fun q1 r1 => ?_)
  show pn_at z _ 1 13 [(0, .ref h0)] [.ref q1, .ref h0] ((h0, .inr (1, [.int 0, .long 0, .int 0, .null])) :: (([] ++ [(q1, .inl (z_cs z 4, 5, .inr (.inr (.inr (.inr (fun i => some (r1 i)))))))]) ++ [(r1 0, .inl (z_cs z 0, 256, .inl (fun _ => 0))), (r1 1, .inl (z_cs z 0, 256, .inl (fun _ => 0))), (r1 2, .inl (z_cs z 0, 256, .inl (fun _ => 0))), (r1 3, .inl (z_cs z 0, 256, .inl (fun _ => 0))), (r1 4, .inl (z_cs z 0, 256, .inl (fun _ => 0)))])) 6 1285
  refine pn_putF (own := "PartSums$Ground") C hin 0 3 (ty := .array (.array .int)) rfl rfl tw_inX1 tyX1 tyX1_ok nmX1 (by decide) tw_104 rfl rfl (by decide +kernel) rfl rfl (Nat.le_of_ble_eq_true rfl) dX1_init_13 (ws' := ((h0, .inr (1, [.int 0, .long 0, .int 0, .ref q1])) :: (([] ++ [(q1, .inl (z_cs z 4, 5, .inr (.inr (.inr (.inr (fun i => some (r1 i)))))))]) ++ [(r1 0, .inl (z_cs z 0, 256, .inl (fun _ => 0))), (r1 1, .inl (z_cs z 0, 256, .inl (fun _ => 0))), (r1 2, .inl (z_cs z 0, 256, .inl (fun _ => 0))), (r1 3, .inl (z_cs z 0, 256, .inl (fun _ => 0))), (r1 4, .inl (z_cs z 0, 256, .inl (fun _ => 0)))]))) rfl ?_
  exact K 16 _ (h0, q1, r1) _ _ rfl dX1_init_16 (Nat.le_of_ble_eq_true rfl) (Nat.le_of_ble_eq_true rfl)
def gA_w (cs : Nat → ClassId) (u : Nat × Nat × Nat × (Nat → Nat) × Nat × Nat × Nat) : va_W := [(u.1, .inr (0, [.int 0, .int 0, .ref u.2.1, .ref u.2.2.1, .ref u.2.2.2.2.1, .ref u.2.2.2.2.2.1, .ref u.2.2.2.2.2.2])), (u.2.1, .inl (cs 0, 8, .inl (fun _ => 0))), (u.2.2.1, .inl (cs 4, 8, .inr (.inr (.inr (.inr (fun i => some (u.2.2.2.1 i))))))), (u.2.2.2.1 0, .inl (cs 0, 256, .inl (fun _ => 0))), (u.2.2.2.1 1, .inl (cs 0, 256, .inl (fun _ => 0))), (u.2.2.2.1 2, .inl (cs 0, 256, .inl (fun _ => 0))), (u.2.2.2.1 3, .inl (cs 0, 256, .inl (fun _ => 0))), (u.2.2.2.1 4, .inl (cs 0, 256, .inl (fun _ => 0))), (u.2.2.2.1 5, .inl (cs 0, 256, .inl (fun _ => 0))), (u.2.2.2.1 6, .inl (cs 0, 256, .inl (fun _ => 0))), (u.2.2.2.1 7, .inl (cs 0, 256, .inl (fun _ => 0))), (u.2.2.2.2.1, .inl (cs 1, 8, .inr (.inl (fun _ => 0)))), (u.2.2.2.2.2.1, .inl (cs 0, 8, .inl (fun _ => 0))), (u.2.2.2.2.2.2, .inl (cs 0, 8, .inl (fun _ => 0)))]
set_option maxHeartbeats 8000000 in
set_option maxRecDepth 4096 in
theorem k_A (l : Launch) (D : va_G) (cs : Nat → ClassId) : pn_M l yX0_init cX0_init { frames := 1, cells := 13, slots := 2088, locals := 12 } D cs 0 [.int 0, .int 0, .null, .null, .null, .null, .null] (fun h0 (u : Nat × Nat × Nat × (Nat → Nat) × Nat × Nat × Nat) => u.1 = h0) (gA_w cs) 13 2088 := by
  refine pn_met yX0_init _ (own := "PartSums$Acts") (by decide) rfl rfl ?_
  intro z h0 hR hl hD hcs C hin K
  subst hcs
  refine pn_aload C dX0_init_0 0 rfl ?_
  refine pn_obj C tw_122 (by rw [hR]; exact Nat.le_of_ble_eq_true rfl) (by rw [hR]; exact Nat.le_of_ble_eq_true rfl) dX0_init_1 ?_
  refine pn_aload C dX0_init_4 0 rfl ?_
  refine pn_bipush (v := 8) C dX0_init_5 (by decide) ?_
  refine pn_newaC (atype := .int) (ty := .int) C 0 (8, .inl (fun _ => 0)) 8 1 8 rfl tw_116 rfl (fun h => h) (fun _ => rfl) (by decide) (by decide) (Nat.le_of_ble_eq_true rfl) rfl rfl (by rw [hR]; exact Nat.le_of_ble_eq_true rfl) (by rw [hR]; exact Nat.le_of_ble_eq_true rfl) dX0_init_7 (fun q1 Rq1 eq1 => ?_)
  refine pn_putF (own := "PartSums$Acts") C hin 0 2 (ty := .array .int) rfl rfl tw_inX0 tyX0 tyX0_ok nmX0 (by decide) tw_127 rfl rfl (by decide +kernel) rfl rfl (Nat.le_of_ble_eq_true rfl) dX0_init_9 (ws' := ((h0, .inr (0, [.int 0, .int 0, .ref q1, .null, .null, .null, .null])) :: Rq1)) rfl ?_
  refine pn_aload C dX0_init_12 0 rfl ?_
  refine pn_bipush (v := 8) C dX0_init_13 (by decide) ?_
  refine pn_sipush (v := 256) C dX0_init_15 (by decide) ?_
  refine pn_mna C 8 256 tw_123 (by decide) (by decide) (by decide) (by decide) (Nat.le_of_ble_eq_true rfl) (Nat.le_of_ble_eq_true rfl) (Nat.le_of_ble_eq_true rfl) (by rw [hR]; exact Nat.le_of_ble_eq_true rfl) (by rw [hR]; exact Nat.le_of_ble_eq_true rfl) dX0_init_18 (fun q2 r2 => ?_)
  show pn_at z _ 1 22 [(0, .ref h0)] [.ref q2, .ref h0] ((h0, .inr (0, [.int 0, .int 0, .ref q1, .null, .null, .null, .null])) :: ((Rq1 ++ [(q2, .inl (z_cs z 4, 8, .inr (.inr (.inr (.inr (fun i => some (r2 i)))))))]) ++ [(r2 0, .inl (z_cs z 0, 256, .inl (fun _ => 0))), (r2 1, .inl (z_cs z 0, 256, .inl (fun _ => 0))), (r2 2, .inl (z_cs z 0, 256, .inl (fun _ => 0))), (r2 3, .inl (z_cs z 0, 256, .inl (fun _ => 0))), (r2 4, .inl (z_cs z 0, 256, .inl (fun _ => 0))), (r2 5, .inl (z_cs z 0, 256, .inl (fun _ => 0))), (r2 6, .inl (z_cs z 0, 256, .inl (fun _ => 0))), (r2 7, .inl (z_cs z 0, 256, .inl (fun _ => 0)))])) 10 2064
  refine pn_putF (own := "PartSums$Acts") C hin 0 3 (ty := .array (.array .int)) rfl rfl tw_inX0 tyX0 tyX0_ok nmX0 (by decide) tw_128 rfl rfl (by decide +kernel) rfl rfl (Nat.le_of_ble_eq_true rfl) dX0_init_22 (ws' := ((h0, .inr (0, [.int 0, .int 0, .ref q1, .ref q2, .null, .null, .null])) :: ((Rq1 ++ [(q2, .inl (z_cs z 4, 8, .inr (.inr (.inr (.inr (fun i => some (r2 i)))))))]) ++ [(r2 0, .inl (z_cs z 0, 256, .inl (fun _ => 0))), (r2 1, .inl (z_cs z 0, 256, .inl (fun _ => 0))), (r2 2, .inl (z_cs z 0, 256, .inl (fun _ => 0))), (r2 3, .inl (z_cs z 0, 256, .inl (fun _ => 0))), (r2 4, .inl (z_cs z 0, 256, .inl (fun _ => 0))), (r2 5, .inl (z_cs z 0, 256, .inl (fun _ => 0))), (r2 6, .inl (z_cs z 0, 256, .inl (fun _ => 0))), (r2 7, .inl (z_cs z 0, 256, .inl (fun _ => 0)))]))) rfl ?_
  refine pn_aload C dX0_init_25 0 rfl ?_
  refine pn_bipush (v := 8) C dX0_init_26 (by decide) ?_
  refine pn_newaC (atype := .long) (ty := .long) C 1 (8, .inr (.inl (fun _ => 0))) 8 11 2072 rfl tw_147 rfl (fun h => h) (fun _ => rfl) (by decide) (by decide) (Nat.le_of_ble_eq_true rfl) rfl rfl (by rw [hR]; exact Nat.le_of_ble_eq_true rfl) (by rw [hR]; exact Nat.le_of_ble_eq_true rfl) dX0_init_28 (fun q3 Rq3 eq3 => ?_)
  refine pn_putF (own := "PartSums$Acts") C hin 0 4 (ty := .array .long) rfl rfl tw_inX0 tyX0 tyX0_ok nmX0 (by decide) tw_129 rfl rfl (by decide +kernel) rfl rfl (Nat.le_of_ble_eq_true rfl) dX0_init_30 (ws' := ((h0, .inr (0, [.int 0, .int 0, .ref q1, .ref q2, .ref q3, .null, .null])) :: Rq3)) rfl ?_
  refine pn_aload C dX0_init_33 0 rfl ?_
  refine pn_bipush (v := 8) C dX0_init_34 (by decide) ?_
  refine pn_newaC (atype := .int) (ty := .int) C 0 (8, .inl (fun _ => 0)) 8 12 2080 rfl tw_116 rfl (fun h => h) (fun _ => rfl) (by decide) (by decide) (Nat.le_of_ble_eq_true rfl) rfl rfl (by rw [hR]; exact Nat.le_of_ble_eq_true rfl) (by rw [hR]; exact Nat.le_of_ble_eq_true rfl) dX0_init_36 (fun q4 Rq4 eq4 => ?_)
  refine pn_putF (own := "PartSums$Acts") C hin 0 5 (ty := .array .int) rfl rfl tw_inX0 tyX0 tyX0_ok nmX0 (by decide) tw_130 rfl rfl (by decide +kernel) rfl rfl (Nat.le_of_ble_eq_true rfl) dX0_init_38 (ws' := ((h0, .inr (0, [.int 0, .int 0, .ref q1, .ref q2, .ref q3, .ref q4, .null])) :: Rq4)) rfl ?_
  refine pn_aload C dX0_init_41 0 rfl ?_
  refine pn_bipush (v := 8) C dX0_init_42 (by decide) ?_
  refine pn_newaC (atype := .int) (ty := .int) C 0 (8, .inl (fun _ => 0)) 8 13 2088 rfl tw_116 rfl (fun h => h) (fun _ => rfl) (by decide) (by decide) (Nat.le_of_ble_eq_true rfl) rfl rfl (by rw [hR]; exact Nat.le_of_ble_eq_true rfl) (by rw [hR]; exact Nat.le_of_ble_eq_true rfl) dX0_init_44 (fun q5 Rq5 eq5 => ?_)
  refine pn_putF (own := "PartSums$Acts") C hin 0 6 (ty := .array .int) rfl rfl tw_inX0 tyX0 tyX0_ok nmX0 (by decide) tw_131 rfl rfl (by decide +kernel) rfl rfl (Nat.le_of_ble_eq_true rfl) dX0_init_46 (ws' := ((h0, .inr (0, [.int 0, .int 0, .ref q1, .ref q2, .ref q3, .ref q4, .ref q5])) :: Rq5)) rfl ?_
  subst eq5
  subst eq4
  subst eq3
  subst eq1
  exact K 49 _ (h0, q1, q2, r2, q3, q4, q5) _ _ rfl dX0_init_49 (Nat.le_of_ble_eq_true rfl) (Nat.le_of_ble_eq_true rfl)
def gR_w (cs : Nat → ClassId) (u : Nat × Nat × Nat) : va_W := [(u.1, .inr (2, [.ref u.2.1, .int 0, .int 0, .int 0, .int 0, .long 0, .ref u.2.2, .int 0, .int 0, .int 0])), (u.2.1, .inl (cs 2, 540, .inl (fun _ => 0))), (u.2.2, .inl (cs 0, 256, .inl (fun _ => 0)))]
set_option maxHeartbeats 8000000 in
set_option maxRecDepth 4096 in
theorem k_R (l : Launch) (D : va_G) (cs : Nat → ClassId) : pn_M l yX2_init cX2_init { frames := 1, cells := 2, slots := 796, locals := 12 } D cs 2 [.null, .int 0, .int 0, .int 0, .int 0, .long 0, .null, .int 0, .int 0, .int 0] (fun h0 (u : Nat × Nat × Nat) => u.1 = h0) (gR_w cs) 2 796 := by
  refine pn_met yX2_init _ (own := "PartSums$Reader") (by decide) rfl rfl ?_
  intro z h0 hR hl hD hcs C hin K
  subst hcs
  refine pn_aload C dX2_init_0 0 rfl ?_
  refine pn_obj C tw_153 (by rw [hR]; exact Nat.le_of_ble_eq_true rfl) (by rw [hR]; exact Nat.le_of_ble_eq_true rfl) dX2_init_1 ?_
  refine pn_aload C dX2_init_4 0 rfl ?_
  refine pn_sipush (v := 540) C dX2_init_5 (by decide) ?_
  refine pn_newaC (atype := .byte) (ty := .byte) C 2 (540, .inl (fun _ => 0)) 540 1 540 rfl tw_191 rfl (fun h => h) (fun _ => rfl) (by decide) (by decide) (Nat.le_of_ble_eq_true rfl) rfl rfl (by rw [hR]; exact Nat.le_of_ble_eq_true rfl) (by rw [hR]; exact Nat.le_of_ble_eq_true rfl) dX2_init_8 (fun q1 Rq1 eq1 => ?_)
  refine pn_putF (own := "PartSums$Reader") C hin 0 0 (ty := .array .byte) rfl rfl tw_inX2 tyX2 tyX2_ok nmX2 (by decide) tw_154 rfl rfl (by decide +kernel) rfl rfl (Nat.le_of_ble_eq_true rfl) dX2_init_10 (ws' := ((h0, .inr (2, [.ref q1, .int 0, .int 0, .int 0, .int 0, .long 0, .null, .int 0, .int 0, .int 0])) :: Rq1)) rfl ?_
  refine pn_aload C dX2_init_13 0 rfl ?_
  refine pn_sipush (v := 256) C dX2_init_14 (by decide) ?_
  refine pn_newaC (atype := .int) (ty := .int) C 0 (256, .inl (fun _ => 0)) 256 2 796 rfl tw_116 rfl (fun h => h) (fun _ => rfl) (by decide) (by decide) (Nat.le_of_ble_eq_true rfl) rfl rfl (by rw [hR]; exact Nat.le_of_ble_eq_true rfl) (by rw [hR]; exact Nat.le_of_ble_eq_true rfl) dX2_init_17 (fun q2 Rq2 eq2 => ?_)
  refine pn_putF (own := "PartSums$Reader") C hin 0 6 (ty := .array .int) rfl rfl tw_inX2 tyX2 tyX2_ok nmX2 (by decide) tw_165 rfl rfl (by decide +kernel) rfl rfl (Nat.le_of_ble_eq_true rfl) dX2_init_19 (ws' := ((h0, .inr (2, [.ref q1, .int 0, .int 0, .int 0, .int 0, .long 0, .ref q2, .int 0, .int 0, .int 0])) :: Rq2)) rfl ?_
  subst eq2
  subst eq1
  exact K 22 _ (h0, q1, q2) _ _ rfl dX2_init_22 (Nat.le_of_ble_eq_true rfl) (Nat.le_of_ble_eq_true rfl)
def gS_w (cs : Nat → ClassId) (u : Nat × Nat × Nat) : va_W := [(u.1, .inr (3, [.ref u.2.1, .ref u.2.2])), (u.2.1, .inl (cs 1, 256, .inr (.inl (fun _ => 0)))), (u.2.2, .inl (cs 1, 9, .inr (.inl (fun _ => 0))))]
set_option maxHeartbeats 8000000 in
set_option maxRecDepth 4096 in
theorem k_S (l : Launch) (D : va_G) (cs : Nat → ClassId) : pn_M l yX3_init cX3_init { frames := 1, cells := 2, slots := 265, locals := 12 } D cs 3 [.null, .null] (fun h0 (u : Nat × Nat × Nat) => u.1 = h0) (gS_w cs) 2 265 := by
  refine pn_met yX3_init _ (own := "PartSums$Series") (by decide) rfl rfl ?_
  intro z h0 hR hl hD hcs C hin K
  subst hcs
  refine pn_aload C dX3_init_0 0 rfl ?_
  refine pn_obj C tw_197 (by rw [hR]; exact Nat.le_of_ble_eq_true rfl) (by rw [hR]; exact Nat.le_of_ble_eq_true rfl) dX3_init_1 ?_
  refine pn_aload C dX3_init_4 0 rfl ?_
  refine pn_sipush (v := 256) C dX3_init_5 (by decide) ?_
  refine pn_newaC (atype := .long) (ty := .long) C 1 (256, .inr (.inl (fun _ => 0))) 256 1 256 rfl tw_147 rfl (fun h => h) (fun _ => rfl) (by decide) (by decide) (Nat.le_of_ble_eq_true rfl) rfl rfl (by rw [hR]; exact Nat.le_of_ble_eq_true rfl) (by rw [hR]; exact Nat.le_of_ble_eq_true rfl) dX3_init_8 (fun q1 Rq1 eq1 => ?_)
  refine pn_putF (own := "PartSums$Series") C hin 0 0 (ty := .array .long) rfl rfl tw_inX3 tyX3 tyX3_ok nmX3 (by decide) tw_198 rfl rfl (by decide +kernel) rfl rfl (Nat.le_of_ble_eq_true rfl) dX3_init_10 (ws' := ((h0, .inr (3, [.ref q1, .null])) :: Rq1)) rfl ?_
  refine pn_aload C dX3_init_13 0 rfl ?_
  refine pn_bipush (v := 9) C dX3_init_14 (by decide) ?_
  refine pn_newaC (atype := .long) (ty := .long) C 1 (9, .inr (.inl (fun _ => 0))) 9 2 265 rfl tw_147 rfl (fun h => h) (fun _ => rfl) (by decide) (by decide) (Nat.le_of_ble_eq_true rfl) rfl rfl (by rw [hR]; exact Nat.le_of_ble_eq_true rfl) (by rw [hR]; exact Nat.le_of_ble_eq_true rfl) dX3_init_16 (fun q2 Rq2 eq2 => ?_)
  refine pn_putF (own := "PartSums$Series") C hin 0 1 (ty := .array .long) rfl rfl tw_inX3 tyX3 tyX3_ok nmX3 (by decide) tw_200 rfl rfl (by decide +kernel) rfl rfl (Nat.le_of_ble_eq_true rfl) dX3_init_18 (ws' := ((h0, .inr (3, [.ref q1, .ref q2])) :: Rq2)) rfl ?_
  subst eq2
  subst eq1
  exact K 21 _ (h0, q1, q2) _ _ rfl dX3_init_21 (Nat.le_of_ble_eq_true rfl) (Nat.le_of_ble_eq_true rfl)
def gP_w (cs : Nat → ClassId) (u : Nat × (Nat × Nat × (Nat → Nat)) × (Nat × Nat × (Nat → Nat)) × (Nat × Nat × (Nat → Nat)) × (Nat × Nat × Nat × (Nat → Nat) × Nat × Nat × Nat) × (Nat × Nat × Nat) × (Nat × Nat × Nat) × Nat × Nat × Nat) : va_W := (u.1, .inr (4, [.ref u.2.1.1, .ref u.2.2.1.1, .ref u.2.2.2.1.1, .ref u.2.2.2.2.1.1, .ref u.2.2.2.2.2.1.1, .ref u.2.2.2.2.2.2.1.1, .ref u.2.2.2.2.2.2.2.1, .ref u.2.2.2.2.2.2.2.2.1, .ref u.2.2.2.2.2.2.2.2.2])) :: ((((((((([] ++ gG_w cs u.2.1) ++ gG_w cs u.2.2.1) ++ gG_w cs u.2.2.2.1) ++ gA_w cs u.2.2.2.2.1) ++ gR_w cs u.2.2.2.2.2.1) ++ gS_w cs u.2.2.2.2.2.2.1) ++ [(u.2.2.2.2.2.2.2.1, .inl (cs 0, 256, .inl (fun _ => 0)))]) ++ [(u.2.2.2.2.2.2.2.2.1, .inl (cs 0, 256, .inl (fun _ => 0)))]) ++ [(u.2.2.2.2.2.2.2.2.2, .inl (cs 0, 8, .inl (fun _ => 0)))])
set_option maxHeartbeats 8000000 in
set_option maxRecDepth 4096 in
theorem k_P (l : Launch) (D : va_G) (cs : Nat → ClassId) : pn_M l yX4_init cX4_init { frames := 3, cells := 44, slots := 7555, locals := 52 } D cs 4 [.null, .null, .null, .null, .null, .null, .null, .null, .null] (fun h0 (u : Nat × (Nat × Nat × (Nat → Nat)) × (Nat × Nat × (Nat → Nat)) × (Nat × Nat × (Nat → Nat)) × (Nat × Nat × Nat × (Nat → Nat) × Nat × Nat × Nat) × (Nat × Nat × Nat) × (Nat × Nat × Nat) × Nat × Nat × Nat) => u.1 = h0) (gP_w cs) 44 7555 := by
  refine pn_met yX4_init _ (own := "PartSums") (by decide) rfl rfl ?_
  intro z h0 hR hl hD hcs C hin K
  subst hcs
  refine pn_aload C dX4_init_0 0 rfl ?_
  refine pn_obj C tw_88 (by rw [hR]; exact Nat.le_of_ble_eq_true rfl) (by rw [hR]; exact Nat.le_of_ble_eq_true rfl) dX4_init_1 ?_
  refine pn_aload C dX4_init_4 0 rfl ?_
  refine pn_new C 1 [.int 0, .long 0, .int 0, .null] rfl tw_inX1 tyX1 tyX1_ok tw_91 tw_92 tw_66 (fun j hj => by match j, hj with | 0, _ => rfl | 1, _ => rfl | 2, _ => rfl | 3, _ => rfl) (by rw [hR]; exact Nat.le_of_ble_eq_true rfl) (by rw [hR]; exact Nat.le_of_ble_eq_true rfl) dX4_init_5 (fun q1 => ?_)
  refine pn_dup C dX4_init_8 rfl ?_
  show pn_at z _ 1 9 [(0, .ref h0)] [.ref q1, .ref q1, .ref h0] (((h0, .inr (4, [.null, .null, .null, .null, .null, .null, .null, .null, .null])) :: []) ++ [(q1, .inr (1, [.int 0, .long 0, .int 0, .null]))]) 1 4
  refine pn_callN C (k_G (z_l z) (z_D z) (z_cs z)) (host := "PartSums") (by decide +kernel) tw_94 tw_66 tw_95 rfl (by decide +kernel) rfl rfl (by rw [hR]; exact ⟨Nat.le_of_ble_eq_true rfl, Nat.le_of_ble_eq_true rfl⟩) (Nat.le_of_ble_eq_true rfl) (by rw [hR]; exact Nat.le_of_ble_eq_true rfl) (by rw [hR]; exact Nat.le_of_ble_eq_true rfl) dX4_init_9 (fun u1 hu1 => ?_)
  rw [← hu1]
  show pn_at z _ 1 12 [(0, .ref h0)] [.ref u1.1, .ref h0] ((h0, .inr (4, [.null, .null, .null, .null, .null, .null, .null, .null, .null])) :: ([] ++ gG_w (z_cs z) u1)) 7 1289
  refine pn_putF (own := "PartSums") C hin 0 0 (ty := .object "PartSums$Ground") rfl rfl tw_inX4 tyX4 tyX4_ok nmX4 (by decide) tw_206 rfl rfl (by decide +kernel) rfl rfl (Nat.le_of_ble_eq_true rfl) dX4_init_12 (ws' := ((h0, .inr (4, [.ref u1.1, .null, .null, .null, .null, .null, .null, .null, .null])) :: ([] ++ gG_w (z_cs z) u1))) rfl ?_
  refine pn_aload C dX4_init_15 0 rfl ?_
  refine pn_new C 1 [.int 0, .long 0, .int 0, .null] rfl tw_inX1 tyX1 tyX1_ok tw_91 tw_92 tw_66 (fun j hj => by match j, hj with | 0, _ => rfl | 1, _ => rfl | 2, _ => rfl | 3, _ => rfl) (by rw [hR]; exact Nat.le_of_ble_eq_true rfl) (by rw [hR]; exact Nat.le_of_ble_eq_true rfl) dX4_init_16 (fun q2 => ?_)
  refine pn_dup C dX4_init_19 rfl ?_
  show pn_at z _ 1 20 [(0, .ref h0)] [.ref q2, .ref q2, .ref h0] (((h0, .inr (4, [.ref u1.1, .null, .null, .null, .null, .null, .null, .null, .null])) :: ([] ++ gG_w (z_cs z) u1)) ++ [(q2, .inr (1, [.int 0, .long 0, .int 0, .null]))]) 8 1293
  refine pn_callN C (k_G (z_l z) (z_D z) (z_cs z)) (host := "PartSums") (by decide +kernel) tw_94 tw_66 tw_95 rfl (by decide +kernel) rfl rfl (by rw [hR]; exact ⟨Nat.le_of_ble_eq_true rfl, Nat.le_of_ble_eq_true rfl⟩) (Nat.le_of_ble_eq_true rfl) (by rw [hR]; exact Nat.le_of_ble_eq_true rfl) (by rw [hR]; exact Nat.le_of_ble_eq_true rfl) dX4_init_20 (fun u2 hu2 => ?_)
  rw [← hu2]
  show pn_at z _ 1 23 [(0, .ref h0)] [.ref u2.1, .ref h0] ((h0, .inr (4, [.ref u1.1, .null, .null, .null, .null, .null, .null, .null, .null])) :: (([] ++ gG_w (z_cs z) u1) ++ gG_w (z_cs z) u2)) 14 2578
  refine pn_putF (own := "PartSums") C hin 0 1 (ty := .object "PartSums$Ground") rfl rfl tw_inX4 tyX4 tyX4_ok nmX4 (by decide) tw_207 rfl rfl (by decide +kernel) rfl rfl (Nat.le_of_ble_eq_true rfl) dX4_init_23 (ws' := ((h0, .inr (4, [.ref u1.1, .ref u2.1, .null, .null, .null, .null, .null, .null, .null])) :: (([] ++ gG_w (z_cs z) u1) ++ gG_w (z_cs z) u2))) rfl ?_
  refine pn_aload C dX4_init_26 0 rfl ?_
  refine pn_new C 1 [.int 0, .long 0, .int 0, .null] rfl tw_inX1 tyX1 tyX1_ok tw_91 tw_92 tw_66 (fun j hj => by match j, hj with | 0, _ => rfl | 1, _ => rfl | 2, _ => rfl | 3, _ => rfl) (by rw [hR]; exact Nat.le_of_ble_eq_true rfl) (by rw [hR]; exact Nat.le_of_ble_eq_true rfl) dX4_init_27 (fun q3 => ?_)
  refine pn_dup C dX4_init_30 rfl ?_
  show pn_at z _ 1 31 [(0, .ref h0)] [.ref q3, .ref q3, .ref h0] (((h0, .inr (4, [.ref u1.1, .ref u2.1, .null, .null, .null, .null, .null, .null, .null])) :: (([] ++ gG_w (z_cs z) u1) ++ gG_w (z_cs z) u2)) ++ [(q3, .inr (1, [.int 0, .long 0, .int 0, .null]))]) 15 2582
  refine pn_callN C (k_G (z_l z) (z_D z) (z_cs z)) (host := "PartSums") (by decide +kernel) tw_94 tw_66 tw_95 rfl (by decide +kernel) rfl rfl (by rw [hR]; exact ⟨Nat.le_of_ble_eq_true rfl, Nat.le_of_ble_eq_true rfl⟩) (Nat.le_of_ble_eq_true rfl) (by rw [hR]; exact Nat.le_of_ble_eq_true rfl) (by rw [hR]; exact Nat.le_of_ble_eq_true rfl) dX4_init_31 (fun u3 hu3 => ?_)
  rw [← hu3]
  show pn_at z _ 1 34 [(0, .ref h0)] [.ref u3.1, .ref h0] ((h0, .inr (4, [.ref u1.1, .ref u2.1, .null, .null, .null, .null, .null, .null, .null])) :: ((([] ++ gG_w (z_cs z) u1) ++ gG_w (z_cs z) u2) ++ gG_w (z_cs z) u3)) 21 3867
  refine pn_putF (own := "PartSums") C hin 0 2 (ty := .object "PartSums$Ground") rfl rfl tw_inX4 tyX4 tyX4_ok nmX4 (by decide) tw_208 rfl rfl (by decide +kernel) rfl rfl (Nat.le_of_ble_eq_true rfl) dX4_init_34 (ws' := ((h0, .inr (4, [.ref u1.1, .ref u2.1, .ref u3.1, .null, .null, .null, .null, .null, .null])) :: ((([] ++ gG_w (z_cs z) u1) ++ gG_w (z_cs z) u2) ++ gG_w (z_cs z) u3))) rfl ?_
  refine pn_aload C dX4_init_37 0 rfl ?_
  refine pn_new C 0 [.int 0, .int 0, .null, .null, .null, .null, .null] rfl tw_inX0 tyX0 tyX0_ok tw_117 tw_118 tw_67 (fun j hj => by match j, hj with | 0, _ => rfl | 1, _ => rfl | 2, _ => rfl | 3, _ => rfl | 4, _ => rfl | 5, _ => rfl | 6, _ => rfl) (by rw [hR]; exact Nat.le_of_ble_eq_true rfl) (by rw [hR]; exact Nat.le_of_ble_eq_true rfl) dX4_init_38 (fun q4 => ?_)
  refine pn_dup C dX4_init_41 rfl ?_
  show pn_at z _ 1 42 [(0, .ref h0)] [.ref q4, .ref q4, .ref h0] (((h0, .inr (4, [.ref u1.1, .ref u2.1, .ref u3.1, .null, .null, .null, .null, .null, .null])) :: ((([] ++ gG_w (z_cs z) u1) ++ gG_w (z_cs z) u2) ++ gG_w (z_cs z) u3)) ++ [(q4, .inr (0, [.int 0, .int 0, .null, .null, .null, .null, .null]))]) 22 3874
  refine pn_callN C (k_A (z_l z) (z_D z) (z_cs z)) (host := "PartSums") (by decide +kernel) tw_120 tw_67 tw_121 rfl (by decide +kernel) rfl rfl (by rw [hR]; exact ⟨Nat.le_of_ble_eq_true rfl, Nat.le_of_ble_eq_true rfl⟩) (Nat.le_of_ble_eq_true rfl) (by rw [hR]; exact Nat.le_of_ble_eq_true rfl) (by rw [hR]; exact Nat.le_of_ble_eq_true rfl) dX4_init_42 (fun u4 hu4 => ?_)
  rw [← hu4]
  show pn_at z _ 1 45 [(0, .ref h0)] [.ref u4.1, .ref h0] ((h0, .inr (4, [.ref u1.1, .ref u2.1, .ref u3.1, .null, .null, .null, .null, .null, .null])) :: (((([] ++ gG_w (z_cs z) u1) ++ gG_w (z_cs z) u2) ++ gG_w (z_cs z) u3) ++ gA_w (z_cs z) u4)) 35 5962
  refine pn_putF (own := "PartSums") C hin 0 3 (ty := .object "PartSums$Acts") rfl rfl tw_inX4 tyX4 tyX4_ok nmX4 (by decide) tw_209 rfl rfl (by decide +kernel) rfl rfl (Nat.le_of_ble_eq_true rfl) dX4_init_45 (ws' := ((h0, .inr (4, [.ref u1.1, .ref u2.1, .ref u3.1, .ref u4.1, .null, .null, .null, .null, .null])) :: (((([] ++ gG_w (z_cs z) u1) ++ gG_w (z_cs z) u2) ++ gG_w (z_cs z) u3) ++ gA_w (z_cs z) u4))) rfl ?_
  refine pn_aload C dX4_init_48 0 rfl ?_
  refine pn_new C 2 [.null, .int 0, .int 0, .int 0, .int 0, .long 0, .null, .int 0, .int 0, .int 0] rfl tw_inX2 tyX2 tyX2_ok tw_148 tw_149 tw_68 (fun j hj => by match j, hj with | 0, _ => rfl | 1, _ => rfl | 2, _ => rfl | 3, _ => rfl | 4, _ => rfl | 5, _ => rfl | 6, _ => rfl | 7, _ => rfl | 8, _ => rfl | 9, _ => rfl) (by rw [hR]; exact Nat.le_of_ble_eq_true rfl) (by rw [hR]; exact Nat.le_of_ble_eq_true rfl) dX4_init_49 (fun q5 => ?_)
  refine pn_dup C dX4_init_52 rfl ?_
  show pn_at z _ 1 53 [(0, .ref h0)] [.ref q5, .ref q5, .ref h0] (((h0, .inr (4, [.ref u1.1, .ref u2.1, .ref u3.1, .ref u4.1, .null, .null, .null, .null, .null])) :: (((([] ++ gG_w (z_cs z) u1) ++ gG_w (z_cs z) u2) ++ gG_w (z_cs z) u3) ++ gA_w (z_cs z) u4)) ++ [(q5, .inr (2, [.null, .int 0, .int 0, .int 0, .int 0, .long 0, .null, .int 0, .int 0, .int 0]))]) 36 5972
  refine pn_callN C (k_R (z_l z) (z_D z) (z_cs z)) (host := "PartSums") (by decide +kernel) tw_151 tw_68 tw_152 rfl (by decide +kernel) rfl rfl (by rw [hR]; exact ⟨Nat.le_of_ble_eq_true rfl, Nat.le_of_ble_eq_true rfl⟩) (Nat.le_of_ble_eq_true rfl) (by rw [hR]; exact Nat.le_of_ble_eq_true rfl) (by rw [hR]; exact Nat.le_of_ble_eq_true rfl) dX4_init_53 (fun u5 hu5 => ?_)
  rw [← hu5]
  show pn_at z _ 1 56 [(0, .ref h0)] [.ref u5.1, .ref h0] ((h0, .inr (4, [.ref u1.1, .ref u2.1, .ref u3.1, .ref u4.1, .null, .null, .null, .null, .null])) :: ((((([] ++ gG_w (z_cs z) u1) ++ gG_w (z_cs z) u2) ++ gG_w (z_cs z) u3) ++ gA_w (z_cs z) u4) ++ gR_w (z_cs z) u5)) 38 6768
  refine pn_putF (own := "PartSums") C hin 0 4 (ty := .object "PartSums$Reader") rfl rfl tw_inX4 tyX4 tyX4_ok nmX4 (by decide) tw_210 rfl rfl (by decide +kernel) rfl rfl (Nat.le_of_ble_eq_true rfl) dX4_init_56 (ws' := ((h0, .inr (4, [.ref u1.1, .ref u2.1, .ref u3.1, .ref u4.1, .ref u5.1, .null, .null, .null, .null])) :: ((((([] ++ gG_w (z_cs z) u1) ++ gG_w (z_cs z) u2) ++ gG_w (z_cs z) u3) ++ gA_w (z_cs z) u4) ++ gR_w (z_cs z) u5))) rfl ?_
  refine pn_aload C dX4_init_59 0 rfl ?_
  refine pn_new C 3 [.null, .null] rfl tw_inX3 tyX3 tyX3_ok tw_192 tw_193 tw_69 (fun j hj => by match j, hj with | 0, _ => rfl | 1, _ => rfl) (by rw [hR]; exact Nat.le_of_ble_eq_true rfl) (by rw [hR]; exact Nat.le_of_ble_eq_true rfl) dX4_init_60 (fun q6 => ?_)
  refine pn_dup C dX4_init_63 rfl ?_
  show pn_at z _ 1 64 [(0, .ref h0)] [.ref q6, .ref q6, .ref h0] (((h0, .inr (4, [.ref u1.1, .ref u2.1, .ref u3.1, .ref u4.1, .ref u5.1, .null, .null, .null, .null])) :: ((((([] ++ gG_w (z_cs z) u1) ++ gG_w (z_cs z) u2) ++ gG_w (z_cs z) u3) ++ gA_w (z_cs z) u4) ++ gR_w (z_cs z) u5)) ++ [(q6, .inr (3, [.null, .null]))]) 39 6770
  refine pn_callN C (k_S (z_l z) (z_D z) (z_cs z)) (host := "PartSums") (by decide +kernel) tw_195 tw_69 tw_196 rfl (by decide +kernel) rfl rfl (by rw [hR]; exact ⟨Nat.le_of_ble_eq_true rfl, Nat.le_of_ble_eq_true rfl⟩) (Nat.le_of_ble_eq_true rfl) (by rw [hR]; exact Nat.le_of_ble_eq_true rfl) (by rw [hR]; exact Nat.le_of_ble_eq_true rfl) dX4_init_64 (fun u6 hu6 => ?_)
  rw [← hu6]
  show pn_at z _ 1 67 [(0, .ref h0)] [.ref u6.1, .ref h0] ((h0, .inr (4, [.ref u1.1, .ref u2.1, .ref u3.1, .ref u4.1, .ref u5.1, .null, .null, .null, .null])) :: (((((([] ++ gG_w (z_cs z) u1) ++ gG_w (z_cs z) u2) ++ gG_w (z_cs z) u3) ++ gA_w (z_cs z) u4) ++ gR_w (z_cs z) u5) ++ gS_w (z_cs z) u6)) 41 7035
  refine pn_putF (own := "PartSums") C hin 0 5 (ty := .object "PartSums$Series") rfl rfl tw_inX4 tyX4 tyX4_ok nmX4 (by decide) tw_211 rfl rfl (by decide +kernel) rfl rfl (Nat.le_of_ble_eq_true rfl) dX4_init_67 (ws' := ((h0, .inr (4, [.ref u1.1, .ref u2.1, .ref u3.1, .ref u4.1, .ref u5.1, .ref u6.1, .null, .null, .null])) :: (((((([] ++ gG_w (z_cs z) u1) ++ gG_w (z_cs z) u2) ++ gG_w (z_cs z) u3) ++ gA_w (z_cs z) u4) ++ gR_w (z_cs z) u5) ++ gS_w (z_cs z) u6))) rfl ?_
  refine pn_aload C dX4_init_70 0 rfl ?_
  refine pn_sipush (v := 256) C dX4_init_71 (by decide) ?_
  refine pn_newaC (atype := .int) (ty := .int) C 0 (256, .inl (fun _ => 0)) 256 42 7291 rfl tw_116 rfl (fun h => h) (fun _ => rfl) (by decide) (by decide) (Nat.le_of_ble_eq_true rfl) rfl rfl (by rw [hR]; exact Nat.le_of_ble_eq_true rfl) (by rw [hR]; exact Nat.le_of_ble_eq_true rfl) dX4_init_74 (fun q7 Rq7 eq7 => ?_)
  refine pn_putF (own := "PartSums") C hin 0 6 (ty := .array .int) rfl rfl tw_inX4 tyX4 tyX4_ok nmX4 (by decide) tw_212 rfl rfl (by decide +kernel) rfl rfl (Nat.le_of_ble_eq_true rfl) dX4_init_76 (ws' := ((h0, .inr (4, [.ref u1.1, .ref u2.1, .ref u3.1, .ref u4.1, .ref u5.1, .ref u6.1, .ref q7, .null, .null])) :: Rq7)) rfl ?_
  refine pn_aload C dX4_init_79 0 rfl ?_
  refine pn_sipush (v := 256) C dX4_init_80 (by decide) ?_
  refine pn_newaC (atype := .int) (ty := .int) C 0 (256, .inl (fun _ => 0)) 256 43 7547 rfl tw_116 rfl (fun h => h) (fun _ => rfl) (by decide) (by decide) (Nat.le_of_ble_eq_true rfl) rfl rfl (by rw [hR]; exact Nat.le_of_ble_eq_true rfl) (by rw [hR]; exact Nat.le_of_ble_eq_true rfl) dX4_init_83 (fun q8 Rq8 eq8 => ?_)
  refine pn_putF (own := "PartSums") C hin 0 7 (ty := .array .int) rfl rfl tw_inX4 tyX4 tyX4_ok nmX4 (by decide) tw_213 rfl rfl (by decide +kernel) rfl rfl (Nat.le_of_ble_eq_true rfl) dX4_init_85 (ws' := ((h0, .inr (4, [.ref u1.1, .ref u2.1, .ref u3.1, .ref u4.1, .ref u5.1, .ref u6.1, .ref q7, .ref q8, .null])) :: Rq8)) rfl ?_
  refine pn_aload C dX4_init_88 0 rfl ?_
  refine pn_bipush (v := 8) C dX4_init_89 (by decide) ?_
  refine pn_newaC (atype := .int) (ty := .int) C 0 (8, .inl (fun _ => 0)) 8 44 7555 rfl tw_116 rfl (fun h => h) (fun _ => rfl) (by decide) (by decide) (Nat.le_of_ble_eq_true rfl) rfl rfl (by rw [hR]; exact Nat.le_of_ble_eq_true rfl) (by rw [hR]; exact Nat.le_of_ble_eq_true rfl) dX4_init_91 (fun q9 Rq9 eq9 => ?_)
  refine pn_putF (own := "PartSums") C hin 0 8 (ty := .array .int) rfl rfl tw_inX4 tyX4 tyX4_ok nmX4 (by decide) tw_214 rfl rfl (by decide +kernel) rfl rfl (Nat.le_of_ble_eq_true rfl) dX4_init_93 (ws' := ((h0, .inr (4, [.ref u1.1, .ref u2.1, .ref u3.1, .ref u4.1, .ref u5.1, .ref u6.1, .ref q7, .ref q8, .ref q9])) :: Rq9)) rfl ?_
  subst eq9
  subst eq8
  subst eq7
  exact K 96 _ (h0, u1, u2, u3, u4, u5, u6, q7, q8, q9) _ _ rfl dX4_init_96 (Nat.le_of_ble_eq_true rfl) (Nat.le_of_ble_eq_true rfl)
