/-! now, join -/
def g_all (a : gG) : Nat := 2 ^ g_n a - 1
theorem all_tb {n t : Nat} : (2 ^ n - 1).testBit t = decide (t < n) := Nat.testBit_two_pow_sub_one n t
theorem and_all {n x : Nat} (h : x < 2 ^ n) : x &&& (2 ^ n - 1) = x := by
  apply Nat.eq_of_testBit_eq
  intro i
  rw [Nat.testBit_and, all_tb]
  by_cases e : i < n
  · simp [e]
  · rw [Nat.testBit_lt_two_pow (Nat.lt_of_lt_of_le h (Nat.pow_le_pow_right (by decide) (by omega)))]; simp
theorem fb_sm_ext {f g : Nat → Nat} {m n : Nat} (hmn : m ≤ n) (h : ∀ i, i < m → f i = g i) (hz : ∀ i, m ≤ i → i < n → g i = 0) : fb_sm f m = fb_sm g n := by
  rw [fb_sm_cong h]
  obtain ⟨d, rfl⟩ := Nat.exists_eq_add_of_le hmn
  rw [fb_sm_split, fb_sm_cong (f := fun k => g (m + k)) (g := fun _ => 0) (fun k hk => hz _ (by omega) (by omega)), fb_sm_const]
  omega
/-- how many pairs there are -/
def g_np (a : gG) : Nat := fb_sm (fun t => g_bc (g_j a t)) 8 / 2
theorem g_bc_0 : g_bc 0 = 0 := by decide
theorem g_p2_all {a : gG} (hw : g_wf a) : g_p2 a (g_all a) = fb_sm (fun t => g_bc (g_j a t)) 8 := by
  refine fb_sm_ext hw.1 (fun i hi => ?_) (fun i h1 _ => ?_)
  · show (if (2 ^ g_n a - 1).testBit i then g_bc (g_j a i &&& (2 ^ g_n a - 1)) else 0) = _
    rw [all_tb, if_pos (by simp [hi]), and_all (hw.2.2.2.1 i)]
  · show g_bc (g_j a i) = 0
    rw [hw.2.2.2.2.1 i h1, g_bc_0]
theorem c_countPairs {σ : ps_S} {j : Nat → Nat} (hv : σ.2 1 1 = lN (g_pr j)) (hj : ∀ t, j t < 256) : fX1_countPairs σ = some (nI (fb_sm (fun t => g_bc (j t)) 8 / 2)) := by
  unfold fX1_countPairs
  rw [hv, c_bits64 hj, Option.bind_some]
  have e : g_bc (j 0) + g_bc (j 1) + g_bc (j 2) + g_bc (j 3) + g_bc (j 4) + g_bc (j 5) + g_bc (j 6) + g_bc (j 7) = fb_sm (fun t => g_bc (j t)) 8 := by
    simp only [fb_sm]; omega
  have hb : fb_sm (fun t => g_bc (j t)) 8 ≤ 64 := by
    have := fb_sm_le (f := fun t => g_bc (j t)) (g := fun _ => 8) (n := 8) (fun t _ => g_bc_le _)
    rw [fb_sm_const] at this
    exact this
  rw [e, pk_shrN (by omega) _ 1 (by decide)]
theorem m_pairsAll {σ : ps_S} {a : gG} (h : m_G σ 47 0 a) (hw : g_wf a) : fX5_pairsIn (nI (g_all a)) σ = some (nI (g_np a)) := by
  have h2 := p2_le _ hw.1
  have h3 := p2_pos (g_n a)
  rw [m_pairsIn h hw (by unfold g_all; omega), g_p2_all hw]; rfl
/-- call 4: now -/
theorem op_now {σ : ps_S} (x : Int32) (h : b_R σ) : ∃ (r : Int32) (υ : ps_S), fX4_now x σ = some r ∧ fX5_now x σ = some (r, υ) ∧ b_R υ := by
  obtain ⟨A, hw, hc, hm⟩ := h
  have hm' := thr_R hm
  unfold fX4_now fX5_now
  simp only [ps_let]
  by_cases e0 : x = 0
  · exact ⟨nI (g_n (a_g A)), thr σ, by rw [if_pos e0, hc.1.1], by rw [if_pos e0, m_things hm'.1, Option.bind_some], b_keep hw hc hm' (thr_fr σ)⟩
  · rw [if_neg e0, if_neg e0]
    by_cases e1 : x = 1
    · exact ⟨nI (g_told (a_g A)), thr σ, by rw [if_pos e1, c_countTold hc.1 hw.1, Option.bind_some], by rw [if_pos e1, m_told hm'.1 hw.1, Option.bind_some], b_keep hw hc hm' (thr_fr σ)⟩
    · rw [if_neg e1, if_neg e1]
      by_cases e2 : x = 2
      · exact ⟨nI (g_np (a_g A)), thr σ, by rw [if_pos e2, c_countPairs hc.1.2.1 (j_lt hw.1), Option.bind_some]; rfl, by rw [if_pos e2, m_all hm'.1 hw.1, Option.bind_some, show nI (2 ^ g_n (a_g A) - 1) = nI (g_all (a_g A)) from rfl, m_pairsAll hm'.1 hw.1, Option.bind_some], b_keep hw hc hm' (thr_fr σ)⟩
      · rw [if_neg e2, if_neg e2]
        by_cases e3 : x = 3
        · obtain ⟨nx, ln, wa, pw, fa, fb, h0, h1, -⟩ := hc.2.1
          exact ⟨nI (a_k A), thr σ, by rw [if_pos e3, h1], by rw [if_pos e3, hm'.2.1], b_keep hw hc hm' (thr_fr σ)⟩
        · rw [if_neg e3, if_neg e3]
          by_cases e4 : x = 4
          · exact ⟨nI (a_l A), thr σ, by rw [if_pos e4, hc.2.2.2.2.1], by rw [if_pos e4, hm'.2.2.2.2.2.1], b_keep hw hc hm' (thr_fr σ)⟩
          · rw [if_neg e4, if_neg e4]
            exact ⟨-1, thr σ, rfl, rfl, b_keep hw hc hm' (thr_fr σ)⟩
/-- two things joined or parted -/
def g_jn (g : gG) (a b : Nat) : gG := (g_n g, g_w g, g_tj (g_j g) a b, g_f g)
theorem g_jn_wf {g : gG} {a b : Nat} (h : g_wf g) (ha : a < g_n g) (hb : b < g_n g) (hab : a ≠ b) : g_wf (g_jn g a b) := by
  obtain ⟨w1, w2, w3, w4, w5, w6, w7, w8, w9⟩ := h
  refine ⟨w1, w2, w3, fun t => ?_, fun t ht => ?_, fun t u => ?_, fun t => ?_, w8, w9⟩
  · show g_tj (g_j g) a b t < 2 ^ g_n g
    unfold g_tj
    split
    · exact Nat.xor_lt_two_pow (w4 t) (Nat.pow_lt_pow_right (by decide) hb)
    · split
      · exact Nat.xor_lt_two_pow (w4 t) (Nat.pow_lt_pow_right (by decide) ha)
      · exact w4 t
  · have ht' : g_n g ≤ t := ht
    show g_tj (g_j g) a b t = 0
    unfold g_tj
    rw [if_neg (by omega), if_neg (by omega)]; exact w5 t ht'
  · show (g_tj (g_j g) a b t).testBit u = (g_tj (g_j g) a b u).testBit t
    rw [g_tj_tb hab, g_tj_tb hab, w6]
    congr 1
    apply decide_eq_decide.mpr
    omega
  · show (g_tj (g_j g) a b t).testBit t = false
    rw [g_tj_tb hab, w7, decide_eq_false (by omega)]; rfl
theorem c_G_jn {τ : ps_S} {g : gG} {a b : Nat} (h : c_G τ 1 g) : c_G (ps_ul τ 1 1 (lN (g_pr (g_tj (g_j g) a b)))) 1 (g_jn g a b) := by
  obtain ⟨h1, h2, h3, h4⟩ := h
  exact ⟨h1, by rw [pu_l, if_pos ⟨rfl, rfl⟩]; rfl, h3, h4⟩
theorem g_chg_jn {g : gG} {a b : Nat} : g_chg 4 g (g_jn g a b) := ⟨rfl, fun h => absurd rfl h, fun _ _ _ _ _ => rfl⟩
theorem m_joins {σ : ps_S} {g : gG} {a b : Nat} (h : m_G σ 47 0 g) (hw : g_wf g) (ha : a < g_n g) (hb : b < g_n g) (hab : a ≠ b) : ∃ τ, fX5_joins 47 (nI a) (nI b) σ = some τ ∧ ps_fr (fun k => k = 47) σ τ ∧ m_G τ 47 0 (g_jn g a b) := by
  have hn := hw.1
  have l47 : ps_ln 47 = 1289 := rfl
  unfold fX5_joins
  simp only [ps_let]
  rw [l47, nl_257, nI_add, nI_add, pk_ok (by omega) (by decide), pk_ok (by omega) (by decide), pk_ok (by omega) (by decide), pk_ok (by omega) (by decide), nI_clamp (by omega), nI_clamp (by omega), m_j h (by omega), sh1' a (by omega), sh1' b (by omega), fb_xorI]
  have e1 : (ps_ui σ 47 (257 + a) (nI (g_j g a ^^^ 2 ^ b))).1 47 (257 + b) = nI (g_j g b) := by
    rw [pu_i, if_neg (by omega)]; exact m_j h (by omega)
  rw [e1, fb_xorI]
  refine ⟨_, rfl, ps_fr.tr (ps_fr_ui rfl) (ps_fr_ui rfl), ?_⟩
  obtain ⟨h1, h2, h3, h4⟩ := h
  refine ⟨by rw [pu_i, if_neg (by omega), pu_i, if_neg (by omega)]; exact h1, fun s hs => by rw [pu_i, if_neg (by omega), pu_i, if_neg (by omega)]; exact h2 s hs, fun t ht => ?_, fun r s hr hs => by rw [pu_i, if_neg (by omega), pu_i, if_neg (by omega)]; exact h4 r s hr hs⟩
  show _ = nI (g_tj (g_j g) a b t)
  unfold g_tj
  rw [pu_i, pu_i]
  by_cases ea : t = a
  · subst ea
    rw [if_neg (by omega), if_pos (by omega), if_pos rfl]
  · rw [if_neg ea]
    by_cases eb : t = b
    · subst eb
      rw [if_pos (by omega), if_pos rfl]
    · rw [if_neg (by omega), if_neg (by omega), if_neg eb]; exact h3 t ht
/-- call 26: join -/
theorem op_join {σ : ps_S} (x y z : Int32) (hz : z = 0 ∨ z = 1) (h : b_R σ) : ∃ (r : Int32) (τ υ : ps_S), fX4_join x y z σ = some (r, τ) ∧ fX5_join x y z τ = some (r, υ) ∧ b_R υ := by
  obtain ⟨A, hw, hc, hm⟩ := h
  have hm' := thr_R hm
  have hn := hw.1.1
  have no : (fX4_join x y z σ = some (-1, σ)) → (fX5_join x y z σ = some (-1, thr σ)) → ∃ (r : Int32) (τ υ : ps_S), fX4_join x y z σ = some (r, τ) ∧ fX5_join x y z τ = some (r, υ) ∧ b_R υ := fun h1 h2 => ⟨-1, σ, thr σ, h1, h2, b_keep hw hc hm' (thr_fr σ)⟩
  rcases thing_cases (a_g A) hw.1 x with hx | ⟨a, ha, rfl⟩
  · refine no ?_ ?_
    · unfold fX4_join
      rw [c_hasThing_no hc.1 hx]; rfl
    · unfold fX5_join
      simp only [ps_let]
      rw [m_isThing_no hm'.1 hw.1 hx]; rfl
  · rcases thing_cases (a_g A) hw.1 y with hy | ⟨b, hb, rfl⟩
    · refine no ?_ ?_
      · unfold fX4_join
        rw [c_hasThing_yes hc.1 hw.1 ha, Option.bind_some, if_neg (by decide), c_hasThing_no hc.1 hy]; rfl
      · unfold fX5_join
        simp only [ps_let]
        rw [m_isThing_yes hm'.1 hw.1 ha, Option.bind_some, if_neg (by decide), m_isThing_no hm'.1 hw.1 hy]; rfl
    · by_cases hab : a = b
      · refine no ?_ ?_
        · unfold fX4_join
          rw [c_hasThing_yes hc.1 hw.1 ha, Option.bind_some, if_neg (by decide), c_hasThing_yes hc.1 hw.1 hb, Option.bind_some, if_neg (by decide), if_pos (by rw [hab])]
        · unfold fX5_join
          simp only [ps_let]
          rw [m_isThing_yes hm'.1 hw.1 ha, Option.bind_some, if_neg (by decide), m_isThing_yes hm'.1 hw.1 hb, Option.bind_some, if_neg (by decide), if_pos (by rw [hab])]
      · have nab : ¬ nI a = nI b := fun q => hab ((nI_eq (by omega) (by omega)).mp q)
        by_cases ez : (if (g_j (a_g A) a).testBit b then (1 : Int32) else 0) = z
        · refine no ?_ ?_
          · unfold fX4_join
            rw [c_hasThing_yes hc.1 hw.1 ha, Option.bind_some, if_neg (by decide), c_hasThing_yes hc.1 hw.1 hb, Option.bind_some, if_neg (by decide), if_neg nab, c_areMates hc.1.2.1 (j_lt hw.1) (by omega) (by omega), Option.bind_some, if_pos ez]
          · unfold fX5_join
            simp only [ps_let]
            rw [m_isThing_yes hm'.1 hw.1 ha, Option.bind_some, if_neg (by decide), m_isThing_yes hm'.1 hw.1 hb, Option.bind_some, if_neg (by decide), if_neg nab, nl_257, nI_add, pk_ok (by omega) (by decide), nI_clamp (by omega), m_j hm'.1 (by omega), m_has (j_lt hw.1 a) (by omega), Option.bind_some, if_pos ez]
        · obtain ⟨τ, t1, t2, t3⟩ := c_keepLine hw hc (l0 := 4) (by omega)
          have hG := c_G_acts hc.1 t2
          have hwf := g_jn_wf hw.1 ha hb hab
          have hc2 := c_G_jn (a := a) (b := b) hG
          have f2 : ps_fr (fun k => k = 1) τ (ps_ul τ 1 1 (lN (g_pr (g_tj (g_j (a_g A)) a b)))) := ps_fr_ul rfl
          have hcR := c_R_push hc t2 (t3 _ g_chg_jn) f2 (fun k _ _ q => by omega) hc2
          have fc : ps_fr c_own σ (ps_ul τ 1 1 (lN (g_pr (g_tj (g_j (a_g A)) a b)))) := (acts_c t2).tr (f2.wk (fun k q => by unfold c_own; omega))
          have hm2 := thr_R (m_R_c hm fc)
          have ht := c_turnPair hG.2.1 (j_lt hw.1) (show a < 8 by omega) (show b < 8 by omega) hab
          generalize hυ : ps_ul τ 1 1 (lN (g_pr (g_tj (g_j (a_g A)) a b))) = υ at hcR fc hm2 ht hc2
          obtain ⟨ω, s1, s2, s3, s4, s5⟩ := m_snap hw hm2
          have hmω := hm2.1.fr s2 (by decide)
          obtain ⟨ρ, r1, r2, r3⟩ := m_joins hmω hw.1 ha hb hab
          refine ⟨nI (g_np (g_jn (a_g A) a b)), υ, ρ, ?_, ?_, b_both (σ := σ) (A := A) (A_push_wf hw hwf) hcR (((thr_fr υ).tr (snap_m s2)).tr (r2.wk (fun k q => by unfold m_own; omega))) (m_R_push hm2 s2 s3 s4 s5 r2 (fun k _ _ h => h) r3)⟩
          · unfold fX4_join
            rw [c_hasThing_yes hc.1 hw.1 ha, Option.bind_some, if_neg (by decide), c_hasThing_yes hc.1 hw.1 hb, Option.bind_some, if_neg (by decide), if_neg nab, c_areMates hc.1.2.1 (j_lt hw.1) (by omega) (by omega), Option.bind_some, if_neg ez, show (4 : Int32) = nI 4 from rfl, t1, Option.bind_some, ht, Option.bind_some, c_countPairs hc2.2.1 (j_lt hwf), Option.bind_some]; rfl
          · unfold fX5_join
            simp only [ps_let]
            rw [m_isThing_yes hm2.1 hw.1 ha, Option.bind_some, if_neg (by decide), m_isThing_yes hm2.1 hw.1 hb, Option.bind_some, if_neg (by decide), if_neg nab, nl_257, nI_add, pk_ok (by omega) (by decide), nI_clamp (by omega), m_j hm2.1 (by omega), m_has (j_lt hw.1 a) (by omega), Option.bind_some, if_neg ez, s1, Option.bind_some, r1, Option.bind_some, m_all r3 hwf, Option.bind_some, show nI (2 ^ g_n (g_jn (a_g A) a b) - 1) = nI (g_all (g_jn (a_g A) a b)) from rfl, m_pairsAll r3 hwf, Option.bind_some]
