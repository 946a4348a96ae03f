/-! the law's loop -/
def z_cs2 (z : ps_X) (ce sl : Nat) : ps_X := (z_s z, z_R z, z_l z, z_p z, z_e z, z_m z, z_args z, z_below z, z_meth z, z_c z, ce, sl, z_Q z, z_E z)
theorem ll_cmp {L j : Nat} (hL : L ≤ 3072) (hj : j ≤ 3084) : (nI L - 6 < nI j) ↔ L < j + 6 := by
  rw [Int32.lt_iff_toInt_lt, nI_toInt (by omega), Int32.toInt_sub, nI_toInt (by omega), show (6 : Int32).toInt = 6 from by decide, fb_bmod (by omega) (by omega)]
  omega
theorem ll_in {L j : Nat} (hL : L ≤ 3072) (h : j + 6 ≤ L) : lc_in (nI j) L := by
  have e1 : nI j + 1 = nI (j + 1) := nI_add j 1
  have e2 : nI j + 2 = nI (j + 2) := nI_add j 2
  have e3 : nI j + 3 = nI (j + 3) := nI_add j 3
  have e4 : nI j + 4 = nI (j + 4) := nI_add j 4
  have e5 : nI j + 5 = nI (j + 5) := nI_add j 5
  unfold lc_in
  rw [e1, e2, e3, e4, e5]
  exact ⟨vp_in_nI (by omega) (by omega), vp_in_nI (by omega) (by omega), vp_in_nI (by omega) (by omega), vp_in_nI (by omega) (by omega), vp_in_nI (by omega) (by omega), vp_in_nI (by omega) (by omega)⟩
theorem ll_go {b L sa : Nat} {xs : Nat → Int32} (hL : L ≤ 3072) : ∀ (n : Nat) (z : ps_X) (j : Nat) (σ : ps_S), ps_C z cL_law 7 "PartSumsLaw" → 19 ≤ (z_R z).frames → 604 ≤ (z_R z).locals → z_cells z + n ≤ (z_R z).cells → z_slots z + 6 * n ≤ (z_R z).slots → ps_XS z b L xs → ps_F sa (ps_A (z_ad z) (z_s z).heap.size) (z_s z) (z_s z).heap → (z_l z).stackTraces = false → b_R σ → L < j + 6 * n + 6 → j ≤ 3078 →
    (∀ (ce sl : Nat) (i : Int32) (σ' : ps_S), ce ≤ z_cells z + n → sl ≤ z_slots z + 6 * n → ps_at (z_cs2 z ce sl) 7 1370 [(0, .ref b), (1, .ref (z_ad z 0)), (2, .ref (z_ad z 45)), (3, .ref (z_ad z 59)), (4, .int i)] [] σ') →
    ps_at z 7 23 [(0, .ref b), (1, .ref (z_ad z 0)), (2, .ref (z_ad z 45)), (3, .ref (z_ad z 59)), (4, .int (nI j))] [] σ := by
  intro n
  induction n with
  | zero =>
    intro z j σ C hf hlo hc hs X hF hlf hb hn hj kend
    refine ps_iload C (pc := 23) dL_law_23 4 rfl ?_
    refine ps_aload_n C (pc := 25) dL_law_25 0 rfl ?_
    refine ps_slen C (pc := 26) X dL_law_26 ?_
    refine ps_bipush (v := 6) C (pc := 27) dL_law_27 (by decide) ?_
    refine ps_isub C (pc := 29) dL_law_29 ?_
    refine ps_icmp_gt C (pc := 30) 1370 dL_law_30 (by decide) (fun hc => ?_) (fun hc => ?_)
    · exact kend (z_cells z) (z_slots z) (nI j) σ (Nat.le_add_right _ _) (Nat.le_add_right _ _)
    · exact absurd ((ll_cmp hL (by omega)).mpr (by omega)) hc
  | succ n ih =>
    intro z j σ C hf hlo hc hs X hF hlf hb hn hj kend
    refine ps_iload C (pc := 23) dL_law_23 4 rfl ?_
    refine ps_aload_n C (pc := 25) dL_law_25 0 rfl ?_
    refine ps_slen C (pc := 26) X dL_law_26 ?_
    refine ps_bipush (v := 6) C (pc := 27) dL_law_27 (by decide) ?_
    refine ps_isub C (pc := 29) dL_law_29 ?_
    refine ps_icmp_gt C (pc := 30) 1370 dL_law_30 (by decide) (fun hc => ?_) (fun hnc => ?_)
    · exact kend (z_cells z) (z_slots z) (nI j) σ (Nat.le_add_right _ _) (Nat.le_add_right _ _)
    · have hj6 : j + 6 ≤ L := by
        rw [ll_cmp hL (by omega)] at hnc
        omega
      have Z : ps_Z z 19 604 := ⟨hf, hlo, by omega, by omega⟩
      have ZM : ps_Z (z_more z) 19 604 := ⟨hf, hlo, show z_cells z + 1 ≤ (z_R z).cells by omega, show z_slots z + 6 ≤ (z_R z).slots by omega⟩
      obtain ⟨r, hr, hbr⟩ := lc_do (xs := xs) (ll_in hL hj6) hb
      refine tL_do C Z ZM X (pf_ok C Z ZM hF hlf) hr ?_
      have CM : ps_C (z_more z) cL_law 7 "PartSumsLaw" := ps_Cmore C
      have hgo := ih (z_more z) (j + 6) r CM hf hlo (show z_cells z + 1 + n ≤ (z_R z).cells by omega) (show z_slots z + 6 + 6 * n ≤ (z_R z).slots by omega) (ps_XSmore X) hF hlf hbr (by omega) (by omega) (fun ce sl i σ' h1 h2 => kend ce sl i σ' (show ce ≤ z_cells z + (n + 1) by have : ce ≤ z_cells z + 1 + n := h1; omega) (show sl ≤ z_slots z + 6 * (n + 1) by have : sl ≤ z_slots z + 6 + 6 * n := h2; omega))
      intro H locs ls hP hS hl
      refine lv_iinc (v := nI (j + 6)) (lv' := [(4, .int (nI (j + 6))), (0, .ref b), (1, .ref (z_ad z 0)), (2, .ref (z_ad z 45)), (3, .ref (z_ad z 59))]) CM.1.1 CM.1.2.1 dL_law_1364 hl (k := 4) rfl (nI_add j 6) (by decide) rfl (fun ls' h' => ?_)
      exact (ps_goto CM (pc := 1367) 23 dL_law_1367 (by decide) hgo) H locs ls' hP hS (lv_sub h' [1, 2, 3, 4, 0] rfl)
