/-! inverse, allWays, roots: the calls -/
theorem lN_to32 (u : Nat) : Int64.toInt32 (lN u) = nI u := by
  apply Int32.toBitVec_inj.mp
  rw [Int64.toBitVec_toInt32, lN_bv, BitVec.signExtend_eq_setWidth_of_le _ (by decide)]
  exact BitVec.setWidth_ofNat_of_le (by decide) _
theorem tl_n {u : Nat} (hu : u < 1000003) : Int32.toInt64 (nI u) = lN u := by
  apply Int64.toInt_inj.mp
  rw [wid (by omega), pk_lT (by omega)]
theorem iv_val {e : Int64} {u : Nat} (hu : u < 1000003) {z H : Int} (he : pe 1000003 e.toInt z) (hH : pe 1000003 (-z * (u : Int)) H) : g_red ((-(e - e / 1000003 * 1000003)) * lN u).toInt = g_red H := by
  obtain ⟨j1, j2, j3, -⟩ := j_rem e
  generalize e - e / 1000003 * 1000003 = x at j1 j2 j3
  have e2 := neg_b (x := x) ⟨j2, j3⟩
  have e5 : (lN u).toInt = (u : Int) := pk_lT (by omega)
  have e6 := mul_b (x := -x) (y := lN u) (by omega) (by omega)
  refine pe_red.mp ?_
  rw [e6, e5, e2]
  refine pe.tr ?_ hH
  have h1 := (j1.tr he)
  have h2 : pe 1000003 (-x.toInt) (-z) := by
    have := (pe.rf (M := 1000003) (x := 0)).sub h1
    rwa [Int.zero_sub, Int.zero_sub] at this
  exact h2.mul pe.rf
theorem m_invs {σ : ps_S} {a : gG} {r u : Nat} {a2 : Int32} (h : m_G σ 47 0 a) (hw : g_wf a) (hn : g_n a ≠ 0) (hr : r < 4) (hu : u < 1000003) (hi : pe 1000003 ((g_f a r 0 : Int) * (u : Int)) 1) : ∃ τ, ps_lp (fun s => fX5_inverse_S54 (nI r) a2 (lN u) s.1 s.2) 100000 (nI 1, ps_ui σ 52 0 (nI u)) = some τ ∧ ps_fr (fun q => q = 52) σ τ ∧ ∀ s, s < 2 ^ g_n a → τ.1 52 s = nI (g_red (s_H (fun p => (g_f a r p : Int)) (s_iv (u : Int)) 0 s)) := by
  have h8 := hw.1
  have h2 := p2_le _ h8
  have h3 := p2_pos (g_n a)
  obtain ⟨τ, t1, t2, t3, -⟩ := fill_from (step := fun s => fX5_inverse_S54 (nI r) a2 (lN u) s.1 s.2) (σ := ps_ui σ 52 0 (nI u)) (N := 2 ^ g_n a) (d0 := 1) (k := 52) (v := fun s => nI (g_red (s_H (fun p => (g_f a r p : Int)) (s_iv (u : Int)) 0 s))) (by omega) (by omega) (fun x hx => by
      have : x = 0 := by omega
      subst this
      show (ps_ui σ 52 0 (nI u)).1 52 0 = nI (g_red (u : Int))
      rw [pu_i, if_pos ⟨rfl, rfl⟩, red_small hu]) (fun i τ hi1 hiN hf hv _ => by
      have hG := (m_G_ui (k := 52) (j := 0) (v := nI u) h (by decide)).fr hf (by decide)
      obtain ⟨e, e1, e2⟩ := m_inv1 (σ := τ) (a2 := a2) (a3 := lN u) (X := s_H (fun p => (g_f a r p : Int)) (s_iv (u : Int)) 0) hG hw hr hiN (fun x hx => hv x hx)
      have hval := iv_val hu e2 (iv_eq (f := fun p => (g_f a r p : Int)) hi (T := i) (by omega) (by omega))
      show fX5_inverse_S54 (nI r) a2 (lN u) (nI i) τ = _
      unfold fX5_inverse_S54
      rw [m_all hG hw, Option.bind_some, if_neg (nI_nlt (by omega) (by omega)), e1, Option.bind_some, p_rest, Option.bind_some, pk_ok (by omega) (by decide), nI_clamp (by omega), hval]
      simp only [ps_let]
      rw [nI_1]) (fun τ hf => by
      have hG := (m_G_ui (k := 52) (j := 0) (v := nI u) h (by decide)).fr hf (by decide)
      show fX5_inverse_S54 (nI r) a2 (lN u) (nI (2 ^ g_n a)) τ = _
      unfold fX5_inverse_S54
      rw [m_all hG hw, Option.bind_some, if_pos (nI_lt (by omega) (by omega))])
  exact ⟨τ, t1, (ps_fr_ui (P := fun q => q = 52) rfl).tr t2, t3⟩
theorem m_alls {σ : ps_S} {a : gG} {r : Nat} {a2 : Int32} (h : m_G σ 47 0 a) (hw : g_wf a) (hn : g_n a ≠ 0) (hr : r < 4) : ∃ τ, ps_lp (fun s => fX5_allWays_S41 (nI r) a2 s.1 s.2) 100000 (nI 1, ps_ui σ 52 0 (nI 1)) = some τ ∧ ps_fr (fun q => q = 52) σ τ ∧ ∀ s, s < 2 ^ g_n a → τ.1 52 s = nI (g_red (s_H (fun p => (g_f a r p : Int)) (fun _ => 1) 0 s)) := by
  have h8 := hw.1
  have h2 := p2_le _ h8
  have h3 := p2_pos (g_n a)
  obtain ⟨τ, t1, t2, t3, -⟩ := fill_from (step := fun s => fX5_allWays_S41 (nI r) a2 s.1 s.2) (σ := ps_ui σ 52 0 (nI 1)) (N := 2 ^ g_n a) (d0 := 1) (k := 52) (v := fun s => nI (g_red (s_H (fun p => (g_f a r p : Int)) (fun _ => 1) 0 s))) (by omega) (by omega) (fun x hx => by
      have : x = 0 := by omega
      subst this
      show (ps_ui σ 52 0 (nI 1)).1 52 0 = nI (g_red 1)
      rw [pu_i, if_pos ⟨rfl, rfl⟩]; rfl) (fun i τ hi1 hiN hf hv _ => by
      have hG := (m_G_ui (k := 52) (j := 0) (v := nI 1) h (by decide)).fr hf (by decide)
      obtain ⟨e, e1, e2⟩ := m_all1 (σ := τ) (a2 := a2) (X := s_H (fun p => (g_f a r p : Int)) (fun _ => 1) 0) hG hw hr hiN (by omega) (fun x hx => hv x hx)
      have hval : g_red e.toInt = g_red (s_H (fun p => (g_f a r p : Int)) (fun _ => 1) 0 i) := by
        rw [aw_eq (f := fun p => (g_f a r p : Int)) (T := i) (by omega) (by omega)]
        exact pe_red.mp e2
      show fX5_allWays_S41 (nI r) a2 (nI i) τ = _
      unfold fX5_allWays_S41
      rw [m_all hG hw, Option.bind_some, if_neg (nI_nlt (by omega) (by omega)), e1, Option.bind_some, p_rest, Option.bind_some, pk_ok (by omega) (by decide), nI_clamp (by omega), hval]
      simp only [ps_let]
      rw [nI_1]) (fun τ hf => by
      have hG := (m_G_ui (k := 52) (j := 0) (v := nI 1) h (by decide)).fr hf (by decide)
      show fX5_allWays_S41 (nI r) a2 (nI (2 ^ g_n a)) τ = _
      unfold fX5_allWays_S41
      rw [m_all hG hw, Option.bind_some, if_pos (nI_lt (by omega) (by omega))])
  exact ⟨τ, t1, (ps_fr_ui (P := fun q => q = 52) rfl).tr t2, t3⟩
theorem m_roots {σ : ps_S} {a : gG} {r : Nat} {a2 : Int32} (h : m_G σ 47 0 a) (hw : g_wf a) (hn : g_n a ≠ 0) (hr : r < 4) (h1 : g_f a r 0 = 1) : ∃ τ, ps_lp (fun s => fX5_roots_S42 (nI r) a2 s.1 s.2) 100000 (nI 1, ps_ui σ 52 0 (nI 0)) = some τ ∧ ps_fr (fun q => q = 52) σ τ ∧ ∀ s, s < 2 ^ g_n a → τ.1 52 s = nI (g_red (s_H (fun p => (g_f a r p : Int)) s_rt 0 s)) := by
  have h8 := hw.1
  have h2 := p2_le _ h8
  have h3 := p2_pos (g_n a)
  obtain ⟨τ, t1, t2, t3, -⟩ := fill_from (step := fun s => fX5_roots_S42 (nI r) a2 s.1 s.2) (σ := ps_ui σ 52 0 (nI 0)) (N := 2 ^ g_n a) (d0 := 1) (k := 52) (v := fun s => nI (g_red (s_H (fun p => (g_f a r p : Int)) s_rt 0 s))) (by omega) (by omega) (fun x hx => by
      have : x = 0 := by omega
      subst this
      show (ps_ui σ 52 0 (nI 0)).1 52 0 = nI (g_red 0)
      rw [pu_i, if_pos ⟨rfl, rfl⟩]; rfl) (fun i τ hi1 hiN hf hv _ => by
      have hG := (m_G_ui (k := 52) (j := 0) (v := nI 0) h (by decide)).fr hf (by decide)
      obtain ⟨e, e1, e2⟩ := m_root1 (σ := τ) (a2 := a2) (X := s_H (fun p => (g_f a r p : Int)) s_rt 0) hG hw hr hiN (by omega) (fun x hx => hv x hx)
      have hval : g_red e.toInt = g_red (s_H (fun p => (g_f a r p : Int)) s_rt 0 i) := by
        rw [rt_eq (f := fun p => (g_f a r p : Int)) (by show ((g_f a r 0 : Nat) : Int) = 1; rw [h1]; rfl) (T := i) (by omega) (by omega)]
        exact pe_red.mp e2
      show fX5_roots_S42 (nI r) a2 (nI i) τ = _
      unfold fX5_roots_S42
      rw [m_all hG hw, Option.bind_some, if_neg (nI_nlt (by omega) (by omega)), m_numberOf hG hr (by omega), Option.bind_some]
      simp only [ps_let]
      rw [n1, pk_sub (by omega), fa_and, e1, Option.bind_some, p_rest, Option.bind_some, pk_ok (by omega) (by decide), nI_clamp (by omega), hval, ← n1, nI_1]) (fun τ hf => by
      have hG := (m_G_ui (k := 52) (j := 0) (v := nI 0) h (by decide)).fr hf (by decide)
      show fX5_roots_S42 (nI r) a2 (nI (2 ^ g_n a)) τ = _
      unfold fX5_roots_S42
      rw [m_all hG hw, Option.bind_some, if_pos (nI_lt (by omega) (by omega))])
  exact ⟨τ, t1, (ps_fr_ui (P := fun q => q = 52) rfl).tr t2, t3⟩
theorem op_inverse {σ : ps_S} (x w : Int32) (h : b_R σ) : ∃ (r : Int32) (τ υ : ps_S), fX4_inverse x w σ = some (r, τ) ∧ fX5_inverse x w τ = some (r, υ) ∧ b_R υ := by
  obtain ⟨A, hw, hc, hm⟩ := h
  have hm' := thr_R hm
  have hN := g_N_le hw.1
  have hP : g_P = 1000003 := rfl
  have bad : (fX4_inverse x w σ = some (-1, σ) ∧ fX5_inverse x w σ = some (-1, thr σ)) → ∃ (r : Int32) (τ υ : ps_S), fX4_inverse x w σ = some (r, τ) ∧ fX5_inverse x w τ = some (r, υ) ∧ b_R υ := fun q => ⟨-1, σ, thr σ, q.1, q.2, b_keep hw hc hm' (thr_fr σ)⟩
  rcases row_cases (a_g A) x with hx | ⟨hn, rf, hf, rfl⟩
  · refine bad ⟨?_, ?_⟩
    · unfold fX4_inverse
      rw [c_hasRow_no hc.1 hw.1 hx]; rfl
    · unfold fX5_inverse
      simp only [ps_let]
      rw [m_isRow_no hm'.1 hw.1 hx]; rfl
  rcases row_cases (a_g A) w with hwx | ⟨-, r, hr, rfl⟩
  · refine bad ⟨?_, ?_⟩
    · unfold fX4_inverse
      rw [c_hasRow_yes hc.1 hw.1 hf hn, Option.bind_some, if_neg (by decide), c_hasRow_no hc.1 hw.1 hwx]; rfl
    · unfold fX5_inverse
      simp only [ps_let]
      rw [m_isRow_yes hm'.1 hw.1 hf hn, Option.bind_some, if_neg (by decide), m_isRow_no hm'.1 hw.1 hwx]; rfl
  have hb := hw.1.2.2.2.2.2.2.2.1 rf 0
  have e0 : σ.1 (2 + 1 + Int32.toNatClampNeg (nI rf)) (Int32.toNatClampNeg 0) = nI (g_f (a_g A) rf 0) := by
    rw [nI_clamp (by omega)]
    exact c_row hc.1 hf (by decide)
  have o5 : ∀ {α : Type} {y : Option α}, ps_ck (nI rf) 5 y = y := fun {_ _} => pk_ok (by omega) (by decide)
  have o0 : ∀ {α : Type} {y : Option α}, ps_ck (0 : Int32) 256 y = y := fun {_ _} => pk_ok (i := 0) (by decide) (by decide)
  by_cases hz : g_f (a_g A) rf 0 = 0
  · refine bad ⟨?_, ?_⟩
    · unfold fX4_inverse
      rw [c_hasRow_yes hc.1 hw.1 hf hn, Option.bind_some, if_neg (by decide), c_hasRow_yes hc.1 hw.1 hr hn, Option.bind_some, if_neg (by decide), o5, o0, e0, if_pos ((nI0_iff (by omega)).mpr hz)]
    · have g0 : fX5_numberOf (nI rf) 0 (thr σ) = some (nI (g_f (a_g A) rf 0)) := m_numberOf hm'.1 hf (by decide)
      unfold fX5_inverse
      rw [ps_let, show ps_ui σ 45 0 0 = thr σ from rfl, m_isRow_yes hm'.1 hw.1 hf hn, Option.bind_some, if_neg (by decide), m_isRow_yes hm'.1 hw.1 hr hn, Option.bind_some, if_neg (by decide), g0, Option.bind_some, if_pos ((nI0_iff (by omega)).mpr hz)]
  have hNp := g_N_pos hn
  have h2 := p2_le _ hw.1.1
  have h3 := p2_pos (g_n (a_g A))
  obtain ⟨τ, t1, t2, t3, t4⟩ := c_slopesOfInverse (σ := σ) (b := g_f (a_g A) rf 0) (u := g_iv (g_f (a_g A) rf 0)) (iv_lt _) (iv_c (by omega))
  have hcτ : c_R τ A := c_R_scr hc (t2.wk (fun k q => by unfold c_scr; omega))
  obtain ⟨ω, w1, w2, w3⟩ := c_composeRow (sl := s_iv (g_iv (g_f (a_g A) rf 0) : Int)) hw hcτ hn hf hr (fun d hd => by rw [t4 d hd]; exact rc_rl _ _ rfl) (by rw [t4 0 (by decide)])
  have fc : ps_fr c_own σ ω := ((t2.wk (fun k q => by unfold c_own; omega))).tr w3
  have hmω : m_R (thr ω) A := thr_R (m_R_c hm fc)
  obtain ⟨ψ, y1, y2, y3⟩ := m_invs (r := rf) (u := g_iv (g_f (a_g A) rf 0)) (a2 := nI r) hmω.1 hw.1 hn hf (iv_lt _) (iv_ok (by omega) (by omega))
  have f52 : ps_fr m_scr (thr ω) ψ := y2.wk (fun k q => by unfold m_scr; omega)
  have hmψ : m_R ψ A := m_R_scr hmω f52
  obtain ⟨φ, z1, z2⟩ := op_row (q := g_all (a_g A)) hw w2 (fun s _ => g_red_lt _) hr hn (by unfold g_all; omega) ((thr_fr ω).tr (scr_m f52)) hmψ (fun s hs => y3 s (by omega))
  refine ⟨nI (g_red (s_H (fun s => (g_f (a_g A) rf s : Int)) (s_iv (g_iv (g_f (a_g A) rf 0) : Int)) 0 (g_all (a_g A)))), ω, φ, ?_, ?_, z2⟩
  · unfold fX4_inverse
    rw [c_hasRow_yes hc.1 hw.1 hf hn, Option.bind_some, if_neg (by decide), c_hasRow_yes hc.1 hw.1 hr hn, Option.bind_some, if_neg (by decide), o5, o0, e0, if_neg (fun q => hz ((nI0_iff (by omega)).mp q)), o5, o0, t1, Option.bind_some, w1, Option.bind_some]
  · have g0 : fX5_numberOf (nI rf) 0 (thr ω) = some (nI (g_f (a_g A) rf 0)) := m_numberOf hmω.1 hf (by decide)
    have k0 : Int32.toNatClampNeg 0 = 0 := rfl
    unfold fX5_inverse
    rw [ps_let, show ps_ui ω 45 0 0 = thr ω from rfl, m_isRow_yes hmω.1 hw.1 hf hn, Option.bind_some, if_neg (by decide), m_isRow_yes hmω.1 hw.1 hr hn, Option.bind_some, if_neg (by decide), g0, Option.bind_some, if_neg (fun q => hz ((nI0_iff (by omega)).mp q)), Option.bind_some, show Int32.toInt64 (nI (g_f (a_g A) rf 0)) = lN (g_f (a_g A) rf 0) from tl_n (by omega), iv_m (by omega), Option.bind_some, o0, ps_let, k0, lN_to32, n1, y1, Option.bind_some, m_all hmψ.1 hw.1, Option.bind_some, show nI (2 ^ g_n (a_g A) - 1) = nI (g_all (a_g A)) from rfl, z1, Option.bind_some]
theorem op_allWays {σ : ps_S} (x w : Int32) (h : b_R σ) : ∃ (r : Int32) (τ υ : ps_S), fX4_allWays x w σ = some (r, τ) ∧ fX5_allWays x w τ = some (r, υ) ∧ b_R υ := by
  obtain ⟨A, hw, hc, hm⟩ := h
  have hm' := thr_R hm
  have hN := g_N_le hw.1
  have hP : g_P = 1000003 := rfl
  have bad : (fX4_allWays x w σ = some (-1, σ) ∧ fX5_allWays x w σ = some (-1, thr σ)) → ∃ (r : Int32) (τ υ : ps_S), fX4_allWays x w σ = some (r, τ) ∧ fX5_allWays x w τ = some (r, υ) ∧ b_R υ := fun q => ⟨-1, σ, thr σ, q.1, q.2, b_keep hw hc hm' (thr_fr σ)⟩
  rcases row_cases (a_g A) x with hx | ⟨hn, rf, hf, rfl⟩
  · refine bad ⟨?_, ?_⟩
    · unfold fX4_allWays
      rw [c_hasRow_no hc.1 hw.1 hx]; rfl
    · unfold fX5_allWays
      simp only [ps_let]
      rw [m_isRow_no hm'.1 hw.1 hx]; rfl
  rcases row_cases (a_g A) w with hwx | ⟨-, r, hr, rfl⟩
  · refine bad ⟨?_, ?_⟩
    · unfold fX4_allWays
      rw [c_hasRow_yes hc.1 hw.1 hf hn, Option.bind_some, if_neg (by decide), c_hasRow_no hc.1 hw.1 hwx]; rfl
    · unfold fX5_allWays
      simp only [ps_let]
      rw [m_isRow_yes hm'.1 hw.1 hf hn, Option.bind_some, if_neg (by decide), m_isRow_no hm'.1 hw.1 hwx]; rfl
  have hb := hw.1.2.2.2.2.2.2.2.1 rf 0
  have e0 : σ.1 (2 + 1 + Int32.toNatClampNeg (nI rf)) (Int32.toNatClampNeg 0) = nI (g_f (a_g A) rf 0) := by
    rw [nI_clamp (by omega)]
    exact c_row hc.1 hf (by decide)
  have o5 : ∀ {α : Type} {y : Option α}, ps_ck (nI rf) 5 y = y := fun {_ _} => pk_ok (by omega) (by decide)
  have o0 : ∀ {α : Type} {y : Option α}, ps_ck (0 : Int32) 256 y = y := fun {_ _} => pk_ok (i := 0) (by decide) (by decide)
  by_cases hz : ¬ g_f (a_g A) rf 0 = 0
  · refine bad ⟨?_, ?_⟩
    · unfold fX4_allWays
      rw [c_hasRow_yes hc.1 hw.1 hf hn, Option.bind_some, if_neg (by decide), c_hasRow_yes hc.1 hw.1 hr hn, Option.bind_some, if_neg (by decide), o5, o0, e0, if_neg (fun q => hz ((nI0_iff (by omega)).mp q))]
    · have g0 : fX5_numberOf (nI rf) 0 (thr σ) = some (nI (g_f (a_g A) rf 0)) := m_numberOf hm'.1 hf (by decide)
      unfold fX5_allWays
      rw [ps_let, show ps_ui σ 45 0 0 = thr σ from rfl, m_isRow_yes hm'.1 hw.1 hf hn, Option.bind_some, if_neg (by decide), m_isRow_yes hm'.1 hw.1 hr hn, Option.bind_some, if_neg (by decide), g0, Option.bind_some, if_neg (fun q => hz ((nI0_iff (by omega)).mp q))]
  have hNp := g_N_pos hn
  have h2 := p2_le _ hw.1.1
  have h3 := p2_pos (g_n (a_g A))
  obtain ⟨τ, t1, t2, t3, t4⟩ := c_slopesOfAllWays σ
  have hcτ : c_R τ A := c_R_scr hc (t2.wk (fun k q => by unfold c_scr; omega))
  obtain ⟨ω, w1, w2, w3⟩ := c_composeRow (sl := fun _ => (1 : Int)) hw hcτ hn hf hr (fun d hd => by rw [t4 d hd]; exact rc_rl _ _ rfl) (by rw [t4 0 (by decide)]; rfl)
  have fc : ps_fr c_own σ ω := ((t2.wk (fun k q => by unfold c_own; omega))).tr w3
  have hmω : m_R (thr ω) A := thr_R (m_R_c hm fc)
  obtain ⟨ψ, y1, y2, y3⟩ := m_alls (r := rf) (a2 := nI r) hmω.1 hw.1 hn hf
  have f52 : ps_fr m_scr (thr ω) ψ := y2.wk (fun k q => by unfold m_scr; omega)
  have hmψ : m_R ψ A := m_R_scr hmω f52
  obtain ⟨φ, z1, z2⟩ := op_row (q := g_all (a_g A)) hw w2 (fun s _ => g_red_lt _) hr hn (by unfold g_all; omega) ((thr_fr ω).tr (scr_m f52)) hmψ (fun s hs => y3 s (by omega))
  refine ⟨nI (g_red (s_H (fun s => (g_f (a_g A) rf s : Int)) (fun _ => (1 : Int)) 0 (g_all (a_g A)))), ω, φ, ?_, ?_, z2⟩
  · unfold fX4_allWays
    rw [c_hasRow_yes hc.1 hw.1 hf hn, Option.bind_some, if_neg (by decide), c_hasRow_yes hc.1 hw.1 hr hn, Option.bind_some, if_neg (by decide), o5, o0, e0, if_pos ((nI0_iff (by omega)).mpr (by omega)), t1, Option.bind_some, w1, Option.bind_some]
  · have g0 : fX5_numberOf (nI rf) 0 (thr ω) = some (nI (g_f (a_g A) rf 0)) := m_numberOf hmω.1 hf (by decide)
    have k0 : Int32.toNatClampNeg 0 = 0 := rfl
    unfold fX5_allWays
    rw [ps_let, show ps_ui ω 45 0 0 = thr ω from rfl, m_isRow_yes hmω.1 hw.1 hf hn, Option.bind_some, if_neg (by decide), m_isRow_yes hmω.1 hw.1 hr hn, Option.bind_some, if_neg (by decide), g0, Option.bind_some, if_pos ((nI0_iff (by omega)).mpr (by omega)), o0, ps_let, k0, n1, y1, Option.bind_some, m_all hmψ.1 hw.1, Option.bind_some, show nI (2 ^ g_n (a_g A) - 1) = nI (g_all (a_g A)) from rfl, z1, Option.bind_some]
theorem rt_rl {d : Nat} (hd : d < 9) : rl_m (Int64.ofInt (s_rt d)) (s_rt d) := by
  have hb : ∀ d : Fin 9, -1000003 ≤ s_rt d.val ∧ s_rt d.val ≤ 1000003 := by decide
  have h1 := hb ⟨d, hd⟩
  simp only at h1
  have h2 := oi_sm (z := s_rt d) (by omega) (by omega)
  exact ⟨by omega, by omega, pe.of h2⟩
theorem op_roots {σ : ps_S} (x w : Int32) (h : b_R σ) : ∃ (r : Int32) (τ υ : ps_S), fX4_roots x w σ = some (r, τ) ∧ fX5_roots x w τ = some (r, υ) ∧ b_R υ := by
  obtain ⟨A, hw, hc, hm⟩ := h
  have hm' := thr_R hm
  have hN := g_N_le hw.1
  have hP : g_P = 1000003 := rfl
  have bad : (fX4_roots x w σ = some (-1, σ) ∧ fX5_roots x w σ = some (-1, thr σ)) → ∃ (r : Int32) (τ υ : ps_S), fX4_roots x w σ = some (r, τ) ∧ fX5_roots x w τ = some (r, υ) ∧ b_R υ := fun q => ⟨-1, σ, thr σ, q.1, q.2, b_keep hw hc hm' (thr_fr σ)⟩
  rcases row_cases (a_g A) x with hx | ⟨hn, rf, hf, rfl⟩
  · refine bad ⟨?_, ?_⟩
    · unfold fX4_roots
      rw [c_hasRow_no hc.1 hw.1 hx]; rfl
    · unfold fX5_roots
      simp only [ps_let]
      rw [m_isRow_no hm'.1 hw.1 hx]; rfl
  rcases row_cases (a_g A) w with hwx | ⟨-, r, hr, rfl⟩
  · refine bad ⟨?_, ?_⟩
    · unfold fX4_roots
      rw [c_hasRow_yes hc.1 hw.1 hf hn, Option.bind_some, if_neg (by decide), c_hasRow_no hc.1 hw.1 hwx]; rfl
    · unfold fX5_roots
      simp only [ps_let]
      rw [m_isRow_yes hm'.1 hw.1 hf hn, Option.bind_some, if_neg (by decide), m_isRow_no hm'.1 hw.1 hwx]; rfl
  have hb := hw.1.2.2.2.2.2.2.2.1 rf 0
  have e0 : σ.1 (2 + 1 + Int32.toNatClampNeg (nI rf)) (Int32.toNatClampNeg 0) = nI (g_f (a_g A) rf 0) := by
    rw [nI_clamp (by omega)]
    exact c_row hc.1 hf (by decide)
  have o5 : ∀ {α : Type} {y : Option α}, ps_ck (nI rf) 5 y = y := fun {_ _} => pk_ok (by omega) (by decide)
  have o0 : ∀ {α : Type} {y : Option α}, ps_ck (0 : Int32) 256 y = y := fun {_ _} => pk_ok (i := 0) (by decide) (by decide)
  by_cases hz : ¬ g_f (a_g A) rf 0 = 1
  · refine bad ⟨?_, ?_⟩
    · unfold fX4_roots
      rw [c_hasRow_yes hc.1 hw.1 hf hn, Option.bind_some, if_neg (by decide), c_hasRow_yes hc.1 hw.1 hr hn, Option.bind_some, if_neg (by decide), o5, o0, e0, n1, if_neg (fun q => hz ((nI_eq (by omega) (by decide)).mp q))]
    · have g0 : fX5_numberOf (nI rf) 0 (thr σ) = some (nI (g_f (a_g A) rf 0)) := m_numberOf hm'.1 hf (by decide)
      unfold fX5_roots
      rw [ps_let, show ps_ui σ 45 0 0 = thr σ from rfl, m_isRow_yes hm'.1 hw.1 hf hn, Option.bind_some, if_neg (by decide), m_isRow_yes hm'.1 hw.1 hr hn, Option.bind_some, if_neg (by decide), g0, Option.bind_some, n1, if_neg (fun q => hz ((nI_eq (by omega) (by decide)).mp q))]
  have hNp := g_N_pos hn
  have h2 := p2_le _ hw.1.1
  have h3 := p2_pos (g_n (a_g A))
  obtain ⟨τ, t1, t2, t3, t4⟩ := c_slopesOfRoots σ
  have hcτ : c_R τ A := c_R_scr hc (t2.wk (fun k q => by unfold c_scr; omega))
  obtain ⟨ω, w1, w2, w3⟩ := c_composeRow (sl := s_rt) hw hcτ hn hf hr (fun d hd => by rw [t4 d hd]; exact rt_rl hd) (by rw [t4 0 (by decide)]; rfl)
  have fc : ps_fr c_own σ ω := ((t2.wk (fun k q => by unfold c_own; omega))).tr w3
  have hmω : m_R (thr ω) A := thr_R (m_R_c hm fc)
  obtain ⟨ψ, y1, y2, y3⟩ := m_roots (r := rf) (a2 := nI r) hmω.1 hw.1 hn hf (by omega)
  have f52 : ps_fr m_scr (thr ω) ψ := y2.wk (fun k q => by unfold m_scr; omega)
  have hmψ : m_R ψ A := m_R_scr hmω f52
  obtain ⟨φ, z1, z2⟩ := op_row (q := g_all (a_g A)) hw w2 (fun s _ => g_red_lt _) hr hn (by unfold g_all; omega) ((thr_fr ω).tr (scr_m f52)) hmψ (fun s hs => y3 s (by omega))
  refine ⟨nI (g_red (s_H (fun s => (g_f (a_g A) rf s : Int)) (s_rt) 0 (g_all (a_g A)))), ω, φ, ?_, ?_, z2⟩
  · unfold fX4_roots
    rw [c_hasRow_yes hc.1 hw.1 hf hn, Option.bind_some, if_neg (by decide), c_hasRow_yes hc.1 hw.1 hr hn, Option.bind_some, if_neg (by decide), o5, o0, e0, n1, if_pos ((nI_eq (by omega) (by decide)).mpr (show g_f (a_g A) rf 0 = 1 by omega)), t1, Option.bind_some, w1, Option.bind_some]
  · have g0 : fX5_numberOf (nI rf) 0 (thr ω) = some (nI (g_f (a_g A) rf 0)) := m_numberOf hmω.1 hf (by decide)
    have k0 : Int32.toNatClampNeg 0 = 0 := rfl
    unfold fX5_roots
    rw [ps_let, show ps_ui ω 45 0 0 = thr ω from rfl, m_isRow_yes hmω.1 hw.1 hf hn, Option.bind_some, if_neg (by decide), m_isRow_yes hmω.1 hw.1 hr hn, Option.bind_some, if_neg (by decide), g0, Option.bind_some, n1, if_pos ((nI_eq (by omega) (by decide)).mpr (show g_f (a_g A) rf 0 = 1 by omega)), o0, ps_let, k0, n0, y1, Option.bind_some, m_all hmψ.1 hw.1, Option.bind_some, show nI (2 ^ g_n (a_g A) - 1) = nI (g_all (a_g A)) from rfl, z1, Option.bind_some]
