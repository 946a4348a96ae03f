/-! the model's constructor -/
def gM_w (cs : Nat → ClassId) (u : Nat × Nat × Nat × Nat × Nat × Nat × Nat × Nat × Nat × Nat × Nat × Nat × Nat × Nat) : va_W := (u.1, .inr (5, [.int 0, .ref u.2.1, .int 0, .int 0, .int 0, .int 0, .int 0, .int 0, .int 0, .int 0, .ref u.2.2.1, .ref u.2.2.2.1, .ref u.2.2.2.2.1, .ref u.2.2.2.2.2.1, .ref u.2.2.2.2.2.2.1, .int 0, .ref u.2.2.2.2.2.2.2.1, .ref u.2.2.2.2.2.2.2.2.1, .ref u.2.2.2.2.2.2.2.2.2.1, .ref u.2.2.2.2.2.2.2.2.2.2.1, .ref u.2.2.2.2.2.2.2.2.2.2.2.1, .ref u.2.2.2.2.2.2.2.2.2.2.2.2.1, .ref u.2.2.2.2.2.2.2.2.2.2.2.2.2, .int 0])) :: ((((((((((((([] ++ [(u.2.1, .inl (cs 0, 540, .inl (fun _ => 0)))]) ++ [(u.2.2.1, .inl (cs 0, 1289, .inl (fun _ => 0)))]) ++ [(u.2.2.2.1, .inl (cs 0, 1289, .inl (fun _ => 0)))]) ++ [(u.2.2.2.2.1, .inl (cs 0, 2578, .inl (fun _ => 0)))]) ++ [(u.2.2.2.2.2.1, .inl (cs 0, 10312, .inl (fun _ => 0)))]) ++ [(u.2.2.2.2.2.2.1, .inl (cs 3, 2, .inl (fun _ => 0)))]) ++ [(u.2.2.2.2.2.2.2.1, .inl (cs 0, 256, .inl (fun _ => 0)))]) ++ [(u.2.2.2.2.2.2.2.2.1, .inl (cs 0, 256, .inl (fun _ => 0)))]) ++ [(u.2.2.2.2.2.2.2.2.2.1, .inl (cs 0, 2304, .inl (fun _ => 0)))]) ++ [(u.2.2.2.2.2.2.2.2.2.2.1, .inl (cs 0, 256, .inl (fun _ => 0)))]) ++ [(u.2.2.2.2.2.2.2.2.2.2.2.1, .inl (cs 0, 2304, .inl (fun _ => 0)))]) ++ [(u.2.2.2.2.2.2.2.2.2.2.2.2.1, .inl (cs 0, 8, .inl (fun _ => 0)))]) ++ [(u.2.2.2.2.2.2.2.2.2.2.2.2.2, .inl (cs 0, 256, .inl (fun _ => 0)))])
set_option maxHeartbeats 8000000 in
set_option maxRecDepth 4096 in
theorem k_M (l : Launch) (D : va_G) (cs : Nat → ClassId) : pn_M l yX5_init cX5_init { frames := 1, cells := 13, slots := 21650, locals := 12 } D cs 5 [.int 0, .null, .int 0, .int 0, .int 0, .int 0, .int 0, .int 0, .int 0, .int 0, .null, .null, .null, .null, .null, .int 0, .null, .null, .null, .null, .null, .null, .null, .int 0] (fun h0 (u : Nat × Nat × Nat × Nat × Nat × Nat × Nat × Nat × Nat × Nat × Nat × Nat × Nat × Nat) => u.1 = h0) (gM_w cs) 13 21650 := by
  refine pn_met yX5_init _ (own := "PartSumsModel") (by decide) rfl rfl ?_
  intro z h0 hR hl hD hcs C hin K
  subst hcs
  refine pn_aload C dX5_init_0 0 rfl ?_
  refine pn_obj C tw_795 (by rw [hR]; exact Nat.le_of_ble_eq_true rfl) (by rw [hR]; exact Nat.le_of_ble_eq_true rfl) dX5_init_1 ?_
  refine pn_aload C dX5_init_4 0 rfl ?_
  refine pn_sipush (v := 540) C dX5_init_5 (by decide) ?_
  refine pn_newaC (atype := .int) (ty := .int) C 0 (540, .inl (fun _ => 0)) 540 1 540 rfl tw_116 rfl (fun h => h) (fun _ => rfl) (by decide) (by decide) (Nat.le_of_ble_eq_true rfl) rfl rfl (by rw [hR]; exact Nat.le_of_ble_eq_true rfl) (by rw [hR]; exact Nat.le_of_ble_eq_true rfl) dX5_init_8 (fun q1 Rq1 eq1 => ?_)
  refine pn_putF (own := "PartSumsModel") C hin 0 1 (ty := .array .int) rfl rfl tw_inX5 tyX5 tyX5_ok nmX5 (by decide) tw_797 rfl rfl (by decide +kernel) rfl rfl (Nat.le_of_ble_eq_true rfl) dX5_init_10 (ws' := ((h0, .inr (5, [.int 0, .ref q1, .int 0, .int 0, .int 0, .int 0, .int 0, .int 0, .int 0, .int 0, .null, .null, .null, .null, .null, .int 0, .null, .null, .null, .null, .null, .null, .null, .int 0])) :: Rq1)) rfl ?_
  refine pn_aload C dX5_init_13 0 rfl ?_
  refine pn_sipush (v := 1289) C dX5_init_14 (by decide) ?_
  refine pn_newaC (atype := .int) (ty := .int) C 0 (1289, .inl (fun _ => 0)) 1289 2 1829 rfl tw_116 rfl (fun h => h) (fun _ => rfl) (by decide) (by decide) (Nat.le_of_ble_eq_true rfl) rfl rfl (by rw [hR]; exact Nat.le_of_ble_eq_true rfl) (by rw [hR]; exact Nat.le_of_ble_eq_true rfl) dX5_init_17 (fun q2 Rq2 eq2 => ?_)
  refine pn_putF (own := "PartSumsModel") C hin 0 10 (ty := .array .int) rfl rfl tw_inX5 tyX5 tyX5_ok nmX5 (by decide) tw_806 rfl rfl (by decide +kernel) rfl rfl (Nat.le_of_ble_eq_true rfl) dX5_init_19 (ws' := ((h0, .inr (5, [.int 0, .ref q1, .int 0, .int 0, .int 0, .int 0, .int 0, .int 0, .int 0, .int 0, .ref q2, .null, .null, .null, .null, .int 0, .null, .null, .null, .null, .null, .null, .null, .int 0])) :: Rq2)) rfl ?_
  refine pn_aload C dX5_init_22 0 rfl ?_
  refine pn_sipush (v := 1289) C dX5_init_23 (by decide) ?_
  refine pn_newaC (atype := .int) (ty := .int) C 0 (1289, .inl (fun _ => 0)) 1289 3 3118 rfl tw_116 rfl (fun h => h) (fun _ => rfl) (by decide) (by decide) (Nat.le_of_ble_eq_true rfl) rfl rfl (by rw [hR]; exact Nat.le_of_ble_eq_true rfl) (by rw [hR]; exact Nat.le_of_ble_eq_true rfl) dX5_init_26 (fun q3 Rq3 eq3 => ?_)
  refine pn_putF (own := "PartSumsModel") C hin 0 11 (ty := .array .int) rfl rfl tw_inX5 tyX5 tyX5_ok nmX5 (by decide) tw_807 rfl rfl (by decide +kernel) rfl rfl (Nat.le_of_ble_eq_true rfl) dX5_init_28 (ws' := ((h0, .inr (5, [.int 0, .ref q1, .int 0, .int 0, .int 0, .int 0, .int 0, .int 0, .int 0, .int 0, .ref q2, .ref q3, .null, .null, .null, .int 0, .null, .null, .null, .null, .null, .null, .null, .int 0])) :: Rq3)) rfl ?_
  refine pn_aload C dX5_init_31 0 rfl ?_
  refine pn_sipush (v := 2578) C dX5_init_32 (by decide) ?_
  refine pn_newaC (atype := .int) (ty := .int) C 0 (2578, .inl (fun _ => 0)) 2578 4 5696 rfl tw_116 rfl (fun h => h) (fun _ => rfl) (by decide) (by decide) (Nat.le_of_ble_eq_true rfl) rfl rfl (by rw [hR]; exact Nat.le_of_ble_eq_true rfl) (by rw [hR]; exact Nat.le_of_ble_eq_true rfl) dX5_init_35 (fun q4 Rq4 eq4 => ?_)
  refine pn_putF (own := "PartSumsModel") C hin 0 12 (ty := .array .int) rfl rfl tw_inX5 tyX5 tyX5_ok nmX5 (by decide) tw_808 rfl rfl (by decide +kernel) rfl rfl (Nat.le_of_ble_eq_true rfl) dX5_init_37 (ws' := ((h0, .inr (5, [.int 0, .ref q1, .int 0, .int 0, .int 0, .int 0, .int 0, .int 0, .int 0, .int 0, .ref q2, .ref q3, .ref q4, .null, .null, .int 0, .null, .null, .null, .null, .null, .null, .null, .int 0])) :: Rq4)) rfl ?_
  refine pn_aload C dX5_init_40 0 rfl ?_
  refine pn_sipush (v := 10312) C dX5_init_41 (by decide) ?_
  refine pn_newaC (atype := .int) (ty := .int) C 0 (10312, .inl (fun _ => 0)) 10312 5 16008 rfl tw_116 rfl (fun h => h) (fun _ => rfl) (by decide) (by decide) (Nat.le_of_ble_eq_true rfl) rfl rfl (by rw [hR]; exact Nat.le_of_ble_eq_true rfl) (by rw [hR]; exact Nat.le_of_ble_eq_true rfl) dX5_init_44 (fun q5 Rq5 eq5 => ?_)
  refine pn_putF (own := "PartSumsModel") C hin 0 13 (ty := .array .int) rfl rfl tw_inX5 tyX5 tyX5_ok nmX5 (by decide) tw_809 rfl rfl (by decide +kernel) rfl rfl (Nat.le_of_ble_eq_true rfl) dX5_init_46 (ws' := ((h0, .inr (5, [.int 0, .ref q1, .int 0, .int 0, .int 0, .int 0, .int 0, .int 0, .int 0, .int 0, .ref q2, .ref q3, .ref q4, .ref q5, .null, .int 0, .null, .null, .null, .null, .null, .null, .null, .int 0])) :: Rq5)) rfl ?_
  refine pn_aload C dX5_init_49 0 rfl ?_
  refine pn_iconst (v := 2) C dX5_init_50 (by decide) ?_
  refine pn_newaC (atype := .boolean) (ty := .boolean) C 3 (2, .inl (fun _ => 0)) 2 6 16010 rfl tw_869 rfl (fun h => h) (fun _ => rfl) (by decide) (by decide) (Nat.le_of_ble_eq_true rfl) rfl rfl (by rw [hR]; exact Nat.le_of_ble_eq_true rfl) (by rw [hR]; exact Nat.le_of_ble_eq_true rfl) dX5_init_51 (fun q6 Rq6 eq6 => ?_)
  refine pn_putF (own := "PartSumsModel") C hin 0 14 (ty := .array .boolean) rfl rfl tw_inX5 tyX5 tyX5_ok nmX5 (by decide) tw_810 rfl rfl (by decide +kernel) rfl rfl (Nat.le_of_ble_eq_true rfl) dX5_init_53 (ws' := ((h0, .inr (5, [.int 0, .ref q1, .int 0, .int 0, .int 0, .int 0, .int 0, .int 0, .int 0, .int 0, .ref q2, .ref q3, .ref q4, .ref q5, .ref q6, .int 0, .null, .null, .null, .null, .null, .null, .null, .int 0])) :: Rq6)) rfl ?_
  refine pn_aload C dX5_init_56 0 rfl ?_
  refine pn_sipush (v := 256) C dX5_init_57 (by decide) ?_
  refine pn_newaC (atype := .int) (ty := .int) C 0 (256, .inl (fun _ => 0)) 256 7 16266 rfl tw_116 rfl (fun h => h) (fun _ => rfl) (by decide) (by decide) (Nat.le_of_ble_eq_true rfl) rfl rfl (by rw [hR]; exact Nat.le_of_ble_eq_true rfl) (by rw [hR]; exact Nat.le_of_ble_eq_true rfl) dX5_init_60 (fun q7 Rq7 eq7 => ?_)
  refine pn_putF (own := "PartSumsModel") C hin 0 16 (ty := .array .int) rfl rfl tw_inX5 tyX5 tyX5_ok nmX5 (by decide) tw_812 rfl rfl (by decide +kernel) rfl rfl (Nat.le_of_ble_eq_true rfl) dX5_init_62 (ws' := ((h0, .inr (5, [.int 0, .ref q1, .int 0, .int 0, .int 0, .int 0, .int 0, .int 0, .int 0, .int 0, .ref q2, .ref q3, .ref q4, .ref q5, .ref q6, .int 0, .ref q7, .null, .null, .null, .null, .null, .null, .int 0])) :: Rq7)) rfl ?_
  refine pn_aload C dX5_init_65 0 rfl ?_
  refine pn_sipush (v := 256) C dX5_init_66 (by decide) ?_
  refine pn_newaC (atype := .int) (ty := .int) C 0 (256, .inl (fun _ => 0)) 256 8 16522 rfl tw_116 rfl (fun h => h) (fun _ => rfl) (by decide) (by decide) (Nat.le_of_ble_eq_true rfl) rfl rfl (by rw [hR]; exact Nat.le_of_ble_eq_true rfl) (by rw [hR]; exact Nat.le_of_ble_eq_true rfl) dX5_init_69 (fun q8 Rq8 eq8 => ?_)
  refine pn_putF (own := "PartSumsModel") C hin 0 17 (ty := .array .int) rfl rfl tw_inX5 tyX5 tyX5_ok nmX5 (by decide) tw_813 rfl rfl (by decide +kernel) rfl rfl (Nat.le_of_ble_eq_true rfl) dX5_init_71 (ws' := ((h0, .inr (5, [.int 0, .ref q1, .int 0, .int 0, .int 0, .int 0, .int 0, .int 0, .int 0, .int 0, .ref q2, .ref q3, .ref q4, .ref q5, .ref q6, .int 0, .ref q7, .ref q8, .null, .null, .null, .null, .null, .int 0])) :: Rq8)) rfl ?_
  refine pn_aload C dX5_init_74 0 rfl ?_
  refine pn_sipush (v := 2304) C dX5_init_75 (by decide) ?_
  refine pn_newaC (atype := .int) (ty := .int) C 0 (2304, .inl (fun _ => 0)) 2304 9 18826 rfl tw_116 rfl (fun h => h) (fun _ => rfl) (by decide) (by decide) (Nat.le_of_ble_eq_true rfl) rfl rfl (by rw [hR]; exact Nat.le_of_ble_eq_true rfl) (by rw [hR]; exact Nat.le_of_ble_eq_true rfl) dX5_init_78 (fun q9 Rq9 eq9 => ?_)
  refine pn_putF (own := "PartSumsModel") C hin 0 18 (ty := .array .int) rfl rfl tw_inX5 tyX5 tyX5_ok nmX5 (by decide) tw_814 rfl rfl (by decide +kernel) rfl rfl (Nat.le_of_ble_eq_true rfl) dX5_init_80 (ws' := ((h0, .inr (5, [.int 0, .ref q1, .int 0, .int 0, .int 0, .int 0, .int 0, .int 0, .int 0, .int 0, .ref q2, .ref q3, .ref q4, .ref q5, .ref q6, .int 0, .ref q7, .ref q8, .ref q9, .null, .null, .null, .null, .int 0])) :: Rq9)) rfl ?_
  refine pn_aload C dX5_init_83 0 rfl ?_
  refine pn_sipush (v := 256) C dX5_init_84 (by decide) ?_
  refine pn_newaC (atype := .int) (ty := .int) C 0 (256, .inl (fun _ => 0)) 256 10 19082 rfl tw_116 rfl (fun h => h) (fun _ => rfl) (by decide) (by decide) (Nat.le_of_ble_eq_true rfl) rfl rfl (by rw [hR]; exact Nat.le_of_ble_eq_true rfl) (by rw [hR]; exact Nat.le_of_ble_eq_true rfl) dX5_init_87 (fun q10 Rq10 eq10 => ?_)
  refine pn_putF (own := "PartSumsModel") C hin 0 19 (ty := .array .int) rfl rfl tw_inX5 tyX5 tyX5_ok nmX5 (by decide) tw_815 rfl rfl (by decide +kernel) rfl rfl (Nat.le_of_ble_eq_true rfl) dX5_init_89 (ws' := ((h0, .inr (5, [.int 0, .ref q1, .int 0, .int 0, .int 0, .int 0, .int 0, .int 0, .int 0, .int 0, .ref q2, .ref q3, .ref q4, .ref q5, .ref q6, .int 0, .ref q7, .ref q8, .ref q9, .ref q10, .null, .null, .null, .int 0])) :: Rq10)) rfl ?_
  refine pn_aload C dX5_init_92 0 rfl ?_
  refine pn_sipush (v := 2304) C dX5_init_93 (by decide) ?_
  refine pn_newaC (atype := .int) (ty := .int) C 0 (2304, .inl (fun _ => 0)) 2304 11 21386 rfl tw_116 rfl (fun h => h) (fun _ => rfl) (by decide) (by decide) (Nat.le_of_ble_eq_true rfl) rfl rfl (by rw [hR]; exact Nat.le_of_ble_eq_true rfl) (by rw [hR]; exact Nat.le_of_ble_eq_true rfl) dX5_init_96 (fun q11 Rq11 eq11 => ?_)
  refine pn_putF (own := "PartSumsModel") C hin 0 20 (ty := .array .int) rfl rfl tw_inX5 tyX5 tyX5_ok nmX5 (by decide) tw_816 rfl rfl (by decide +kernel) rfl rfl (Nat.le_of_ble_eq_true rfl) dX5_init_98 (ws' := ((h0, .inr (5, [.int 0, .ref q1, .int 0, .int 0, .int 0, .int 0, .int 0, .int 0, .int 0, .int 0, .ref q2, .ref q3, .ref q4, .ref q5, .ref q6, .int 0, .ref q7, .ref q8, .ref q9, .ref q10, .ref q11, .null, .null, .int 0])) :: Rq11)) rfl ?_
  refine pn_aload C dX5_init_101 0 rfl ?_
  refine pn_bipush (v := 8) C dX5_init_102 (by decide) ?_
  refine pn_newaC (atype := .int) (ty := .int) C 0 (8, .inl (fun _ => 0)) 8 12 21394 rfl tw_116 rfl (fun h => h) (fun _ => rfl) (by decide) (by decide) (Nat.le_of_ble_eq_true rfl) rfl rfl (by rw [hR]; exact Nat.le_of_ble_eq_true rfl) (by rw [hR]; exact Nat.le_of_ble_eq_true rfl) dX5_init_104 (fun q12 Rq12 eq12 => ?_)
  refine pn_putF (own := "PartSumsModel") C hin 0 21 (ty := .array .int) rfl rfl tw_inX5 tyX5 tyX5_ok nmX5 (by decide) tw_817 rfl rfl (by decide +kernel) rfl rfl (Nat.le_of_ble_eq_true rfl) dX5_init_106 (ws' := ((h0, .inr (5, [.int 0, .ref q1, .int 0, .int 0, .int 0, .int 0, .int 0, .int 0, .int 0, .int 0, .ref q2, .ref q3, .ref q4, .ref q5, .ref q6, .int 0, .ref q7, .ref q8, .ref q9, .ref q10, .ref q11, .ref q12, .null, .int 0])) :: Rq12)) rfl ?_
  refine pn_aload C dX5_init_109 0 rfl ?_
  refine pn_sipush (v := 256) C dX5_init_110 (by decide) ?_
  refine pn_newaC (atype := .int) (ty := .int) C 0 (256, .inl (fun _ => 0)) 256 13 21650 rfl tw_116 rfl (fun h => h) (fun _ => rfl) (by decide) (by decide) (Nat.le_of_ble_eq_true rfl) rfl rfl (by rw [hR]; exact Nat.le_of_ble_eq_true rfl) (by rw [hR]; exact Nat.le_of_ble_eq_true rfl) dX5_init_113 (fun q13 Rq13 eq13 => ?_)
  refine pn_putF (own := "PartSumsModel") C hin 0 22 (ty := .array .int) rfl rfl tw_inX5 tyX5 tyX5_ok nmX5 (by decide) tw_818 rfl rfl (by decide +kernel) rfl rfl (Nat.le_of_ble_eq_true rfl) dX5_init_115 (ws' := ((h0, .inr (5, [.int 0, .ref q1, .int 0, .int 0, .int 0, .int 0, .int 0, .int 0, .int 0, .int 0, .ref q2, .ref q3, .ref q4, .ref q5, .ref q6, .int 0, .ref q7, .ref q8, .ref q9, .ref q10, .ref q11, .ref q12, .ref q13, .int 0])) :: Rq13)) rfl ?_
  subst eq13
  subst eq12
  subst eq11
  subst eq10
  subst eq9
  subst eq8
  subst eq7
  subst eq6
  subst eq5
  subst eq4
  subst eq3
  subst eq2
  subst eq1
  exact K 118 _ (h0, q1, q2, q3, q4, q5, q6, q7, q8, q9, q10, q11, q12, q13) _ _ rfl dX5_init_118 (Nat.le_of_ble_eq_true rfl) (Nat.le_of_ble_eq_true rfl)
