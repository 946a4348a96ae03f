/-! partings, colourings, hangs: the calls -/
theorem c_ex {σ : ps_S} {a : gG} {what : Nat} {sl : Nat → Int} (h : c_G σ 1 a) (hw : g_wf a) (hrow : ∀ s, s < 2 ^ g_n a → σ.1 42 s = nI (g_ms a what s)) (hsl : ∀ d, d < 9 → σ.2 41 d = Int64.ofInt (sl d)) : ∃ τ, fX3_compose 42 (σ.1 1 0) 1 σ = some τ ∧ ps_fr (fun q => q = 40) σ τ ∧ ∀ T, T < 2 ^ g_n a → τ.2 40 T = Int64.ofInt (s_H (fun s => (g_ms a what s : Int)) sl 0 T) := by
  have h8 := hw.1
  have h2 := p2_le _ h8
  obtain ⟨τ, c1, c2, c3, c4, c5⟩ := c_compose (σ := σ) (k := 42) (n := g_n a) (z := 1) (Rl := rx) (Rc := rx) (sl := sl) (f := fun s => (g_ms a what s : Int)) (by decide) h8 (fun _ _ h => h) (fun s hs => by
      have := (g_ms_lt hw (what := what) (s := s) (by omega)).1
      rw [hrow s hs, nI_toInt (by omega)]) (step_x (by decide)) (fun d hd => hsl d (by omega))
  refine ⟨τ, by rw [h.1]; exact c1, c2, fun T hT => ?_⟩
  by_cases c : T = 0
  · subst c
    rw [c4, hsl 0 (by decide), s_H0]
  · exact c5 T hT c
theorem oi_32 (z : Int) : Int64.toInt32 (Int64.ofInt z) = Int32.ofInt z := Int64.toInt32_ofInt
theorem op_partings {σ : ps_S} (x y : Int32) (h : b_R σ) : ∃ (r : Int32) (τ υ : ps_S), fX4_partings x y σ = some (r, τ) ∧ fX5_partings x y τ = some (r, υ) ∧ b_R υ := by
  obtain ⟨A, hw, hc, hm⟩ := h
  have hm' := thr_R hm
  have hN := g_N_le hw.1
  have bad : (fX4_partings x y σ = some (-1, σ) ∧ fX5_partings x y σ = some (-1, thr σ)) → ∃ (r : Int32) (τ υ : ps_S), fX4_partings x y σ = some (r, τ) ∧ fX5_partings x y τ = some (r, υ) ∧ b_R υ := fun q => ⟨-1, σ, thr σ, q.1, q.2, b_keep hw hc hm' (thr_fr σ)⟩
  rcases set_cases (a_g A) hw.1 x with hx | ⟨S, hS, rfl⟩
  · refine bad ⟨?_, ?_⟩
    · unfold fX4_partings
      rw [c_hasSet_no hc.1 hw.1 hx]; rfl
    · unfold fX5_partings
      rw [ps_let, show ps_ui σ 45 0 0 = thr σ from rfl, m_isSet_no hm'.1 hw.1 hx]; rfl
  have hn : g_n (a_g A) ≠ 0 := fun q => by unfold g_N at hS; rw [if_pos q] at hS; omega
  have hNp := g_N_pos hn
  rcases n_cases y (8 + 1) (by decide) with hv | ⟨hv, hv0⟩ | ⟨k, hk, rfl⟩
  · refine bad ⟨?_, ?_⟩
    · unfold fX4_partings
      rw [c_hasSet_yes hc.1 hw.1 hS, Option.bind_some, if_neg (by decide), if_pos hv]
    · unfold fX5_partings
      rw [ps_let, show ps_ui σ 45 0 0 = thr σ from rfl, m_isSet_yes hm'.1 hw.1 hS, Option.bind_some, if_neg (by decide), m_isIn_no (Or.inl hv)]; rfl
  · have h7 : (8 : Int32) < y := lt_of_le (n := 8 + 1) (by decide) (by decide) hv hv0
    refine bad ⟨?_, ?_⟩
    · unfold fX4_partings
      rw [c_hasSet_yes hc.1 hw.1 hS, Option.bind_some, if_neg (by decide), if_neg hv0, if_neg (fa_of_lt h7).2.1]
    · unfold fX5_partings
      rw [ps_let, show ps_ui σ 45 0 0 = thr σ from rfl, m_isSet_yes hm'.1 hw.1 hS, Option.bind_some, if_neg (by decide), m_isIn_no (Or.inr h7)]; rfl
  have h8 := hw.1.1
  have h2 := p2_le _ h8
  obtain ⟨τ1, a1, a2, a3, -⟩ := c_measureAll (what := 1) hc.1 hw.1 (by decide)
  have g1 : c_G τ1 1 (a_g A) := c_G_fr42 hc.1 a2
  obtain ⟨τ2, b1, b2, b0, b3⟩ := c_slopesOfCount (σ := τ1) (k := k) (by omega)
  have g2 : c_G τ2 1 (a_g A) := g1.fr b2 (fun k h1 h2 => by omega)
  obtain ⟨τ4, e1, e2, e3⟩ := c_ex (what := 1) (sl := fun d => if d = k then 1 else 0) g2 hw.1 (fun s hs => by rw [b0]; exact a3 s (by omega)) b3
  have fc : ps_fr c_scr σ τ4 := ((a2.wk (fun k q => by unfold c_scr; omega)).tr (b2.wk (fun k q => by unfold c_scr; omega))).tr (e2.wk (fun k q => by unfold c_scr; omega))
  have hc4 : c_R τ4 A := c_R_scr hc fc
  have hmω : m_R (thr τ4) A := thr_R (m_R_c hm (fc.wk (fun k q => by unfold c_scr at q; unfold c_own; omega)))
  obtain ⟨ψ, y1, y2, y3⟩ := m_laysWays hmω.1 hw.1 hn
  have f52 : ps_fr m_scr (thr τ4) ψ := y2.wk (fun k q => by unfold m_scr; omega)
  have hmψ : m_R ψ A := m_R_scr hmω f52
  refine ⟨Int32.ofInt (w_W (fun p => (g_ms (a_g A) 1 p : Int)) k S), τ4, ψ, ?_, ?_, b_keep hw hc4 hmψ ((thr_fr τ4).tr (scr_m f52))⟩
  · unfold fX4_partings
    rw [c_hasSet_yes hc.1 hw.1 hS, Option.bind_some, if_neg (by decide), if_neg (nI_pos (by omega)), nl_8, if_pos (nI_le (by omega) (by decide)), show (1 : Int32) = nI 1 from rfl, a1, Option.bind_some, b1, Option.bind_some, ← n1, e1, Option.bind_some, pk_ok (by omega) (by decide), nI_clamp (by omega), e3 S (by omega), oi_32]
    rfl
  · unfold fX5_partings
    rw [ps_let, show ps_ui τ4 45 0 0 = thr τ4 from rfl, m_isSet_yes hmω.1 hw.1 hS, Option.bind_some, if_neg (by decide), nl_8, m_isIn_yes (nI_pos (by omega)) (nI_nlt (by omega) (by decide)), Option.bind_some, if_neg (by decide), y1, Option.bind_some, nl_9, fa_mul, nI_add, pk_ok (by omega) (by decide), nI_clamp (by omega), y3 S k (by omega) (by omega)]
theorem w_wide {z : Int} (h0 : 0 ≤ z) (h1 : z ≤ 268435456) : Int32.toInt64 (Int32.ofInt z) = Int64.ofInt z := by
  obtain ⟨n, rfl⟩ := Int.eq_ofNat_of_zero_le h0
  apply Int64.toInt_inj.mp
  rw [oi_sm (by omega) (by omega)]
  exact wid (by omega)
theorem m_cols {σ : ps_S} {S k : Nat} {W : Nat → Int} (hS : S < 256) (hk : k ≤ 99) (hW : ∀ j, j < 9 → σ.1 56 (9 * S + j) = Int32.ofInt (W j) ∧ 0 ≤ W j ∧ W j ≤ 268435456) : ps_lp (fun s => fX5_colourings_S39 (nI S) (nI k) σ s.1 s.2.1 s.2.2) 100000 ((0 : Int64), (1 : Int64), (0 : Int32)) = some (Int64.ofInt (fb_si (fun j => s_ff (k : Int) j * W j) 9)) := by
  obtain ⟨e, e1, e2⟩ := ps_for (step := fun s => fX5_colourings_S39 (nI S) (nI k) σ s.1 s.2.1 s.2.2) 9 (fun i q => q.1 = Int64.ofInt (fb_si (fun j => s_ff (k : Int) j * W j) i) ∧ q.2.1 = Int64.ofInt (s_ff (k : Int) i) ∧ q.2.2 = nI i) (fun e => e = Int64.ofInt (fb_si (fun j => s_ff (k : Int) j * W j) 9)) (F := 100000) (s := ((0 : Int64), (1 : Int64), (0 : Int32))) (by
      rintro i ⟨a3, a5, a7⟩ hi ⟨q1, q2, q3⟩
      simp only at q1 q2 q3
      subst q1 q2 q3
      obtain ⟨w1, w2, w3⟩ := hW i hi
      refine ⟨(Int64.ofInt (fb_si (fun j => s_ff (k : Int) j * W j) (i + 1)), Int64.ofInt (s_ff (k : Int) (i + 1)), nI (i + 1)), ?_, rfl, rfl, rfl⟩
      show fX5_colourings_S39 (nI S) (nI k) σ (Int64.ofInt (fb_si (fun j => s_ff (k : Int) j * W j) i)) (Int64.ofInt (s_ff (k : Int) i)) (nI i) = _
      unfold fX5_colourings_S39 fX5_colourings_J82
      simp only [ps_let]
      have hz : (if nI k ≤ nI i then (0 : Int64) else Int32.toInt64 (nI k - nI i)) = Int64.ofInt (if k ≤ i then 0 else (k : Int) - i) := by
        by_cases c : k ≤ i
        · rw [if_pos (nI_le c (by omega)), if_pos c]; rfl
        · rw [if_neg (nI_ge (by omega) (by omega)), if_neg c, pk_sub (by omega)]
          apply Int64.toInt_inj.mp
          rw [wid (by omega), oi_sm (by omega) (by omega)]
          omega
      have hff : s_ff (k : Int) i * (if k ≤ i then 0 else (k : Int) - i) = s_ff (k : Int) (i + 1) := by
        rw [s_ff]
        by_cases c : k ≤ i
        · rw [if_pos c, Int.mul_zero]
          by_cases d : k = i
          · rw [d, Int.sub_self, Int.mul_zero]
          · rw [ff_zero (by omega), Int.zero_mul]
        · rw [if_neg c]
      rw [nl_8, if_neg (nI_nlt (by omega) (by decide)), nl_9, fa_mul, nI_add, pk_ok (by omega) (by decide), nI_clamp (by omega), w1, w_wide w2 w3, ← oi_mul, ← oi_add, nI_1, fb_si_succ, Int.mul_comm (W i)]
      by_cases c : k ≤ i
      · rw [if_pos (nI_le c (by omega))]
        rw [if_pos (nI_le c (by omega))] at hz
        rw [hz, ← oi_mul, hff]
      · rw [if_neg (nI_ge (by omega) (by omega))]
        rw [if_neg (nI_ge (by omega) (by omega))] at hz
        rw [hz, ← oi_mul, hff]) (by
      rintro ⟨a3, a5, a7⟩ ⟨q1, q2, q3⟩
      simp only at q1 q2 q3
      subst q1 q2 q3
      refine ⟨_, ?_, rfl⟩
      show fX5_colourings_S39 (nI S) (nI k) σ _ _ (nI 9) = _
      unfold fX5_colourings_S39
      rw [if_pos (by decide)]) ⟨rfl, rfl, rfl⟩ (by decide)
  rw [e1, e2]
theorem op_colourings {σ : ps_S} (x y : Int32) (h : b_R σ) : ∃ (r : Int64) (τ υ : ps_S), fX4_colourings x y σ = some (r, τ) ∧ fX5_colourings x y τ = some (r, υ) ∧ b_R υ := by
  obtain ⟨A, hw, hc, hm⟩ := h
  have hm' := thr_R hm
  have hN := g_N_le hw.1
  have bad : (fX4_colourings x y σ = some (-1, σ) ∧ fX5_colourings x y σ = some (-1, thr σ)) → ∃ (r : Int64) (τ υ : ps_S), fX4_colourings x y σ = some (r, τ) ∧ fX5_colourings x y τ = some (r, υ) ∧ b_R υ := fun q => ⟨-1, σ, thr σ, q.1, q.2, b_keep hw hc hm' (thr_fr σ)⟩
  rcases set_cases (a_g A) hw.1 x with hx | ⟨S, hS, rfl⟩
  · refine bad ⟨?_, ?_⟩
    · unfold fX4_colourings
      rw [c_hasSet_no hc.1 hw.1 hx]; rfl
    · unfold fX5_colourings
      rw [ps_let, show ps_ui σ 45 0 0 = thr σ from rfl, m_isSet_no hm'.1 hw.1 hx]; rfl
  have hn : g_n (a_g A) ≠ 0 := fun q => by unfold g_N at hS; rw [if_pos q] at hS; omega
  have hNp := g_N_pos hn
  rcases n_cases y (99 + 1) (by decide) with hv | ⟨hv, hv0⟩ | ⟨k, hk, rfl⟩
  · refine bad ⟨?_, ?_⟩
    · unfold fX4_colourings
      rw [c_hasSet_yes hc.1 hw.1 hS, Option.bind_some, if_neg (by decide), if_pos hv]
    · unfold fX5_colourings
      rw [ps_let, show ps_ui σ 45 0 0 = thr σ from rfl, m_isSet_yes hm'.1 hw.1 hS, Option.bind_some, if_neg (by decide), m_isIn_no (Or.inl hv)]; rfl
  · have h7 : (99 : Int32) < y := lt_of_le (n := 99 + 1) (by decide) (by decide) hv hv0
    refine bad ⟨?_, ?_⟩
    · unfold fX4_colourings
      rw [c_hasSet_yes hc.1 hw.1 hS, Option.bind_some, if_neg (by decide), if_neg hv0, if_neg (fa_of_lt h7).2.1]
    · unfold fX5_colourings
      rw [ps_let, show ps_ui σ 45 0 0 = thr σ from rfl, m_isSet_yes hm'.1 hw.1 hS, Option.bind_some, if_neg (by decide), m_isIn_no (Or.inr h7)]; rfl
  have h8 := hw.1.1
  have h2 := p2_le _ h8
  obtain ⟨τ1, a1, a2, a3, -⟩ := c_measureAll (what := 2) hc.1 hw.1 (by decide)
  have g1 : c_G τ1 1 (a_g A) := c_G_fr42 hc.1 a2
  obtain ⟨τ2, b1, b2, b0, b3⟩ := c_choices (σ := τ1) (k := k) (by omega)
  have g2 : c_G τ2 1 (a_g A) := g1.fr b2 (fun k h1 h2 => by omega)
  obtain ⟨τ4, e1, e2, e3⟩ := c_ex (what := 2) (sl := s_ff (k : Int)) g2 hw.1 (fun s hs => by rw [b0]; exact a3 s (by omega)) b3
  have fc : ps_fr c_scr σ τ4 := ((a2.wk (fun k q => by unfold c_scr; omega)).tr (b2.wk (fun k q => by unfold c_scr; omega))).tr (e2.wk (fun k q => by unfold c_scr; omega))
  have hc4 : c_R τ4 A := c_R_scr hc fc
  have hmω : m_R (thr τ4) A := thr_R (m_R_c hm (fc.wk (fun k q => by unfold c_scr at q; unfold c_own; omega)))
  obtain ⟨ψ, y1, y2, y3⟩ := m_laysPlain hmω.1 hw.1 hn
  have f52 : ps_fr m_scr (thr τ4) ψ := y2.wk (fun k q => by unfold m_scr; omega)
  have hmψ : m_R ψ A := m_R_scr hmω f52
  have hb : ∀ p, p < 256 → (0 : Int) ≤ (g_ms (a_g A) 2 p : Int) ∧ (g_ms (a_g A) 2 p : Int) ≤ 1 := fun p _ => by
    have : g_ms (a_g A) 2 p = if g_pi (a_g A) p = 0 then 1 else 0 := rfl
    rw [this]
    split <;> decide
  have hl := m_cols (σ := ψ) (S := S) (k := k) (W := fun j => w_W (fun p => (g_ms (a_g A) 2 p : Int)) j S) (by omega) (by omega) (fun j hj => ⟨y3 S j (by omega) hj, w_small hb (by omega) j⟩)
  have hH := H_lin (fun p => (g_ms (a_g A) 2 p : Int)) (s_ff (k : Int)) (M := 9) S (by omega) 0 (by have := g_bc_le S; omega)
  refine ⟨Int64.ofInt (fb_si (fun j => s_ff (k : Int) j * w_W (fun p => (g_ms (a_g A) 2 p : Int)) j S) 9), τ4, ψ, ?_, ?_, b_keep hw hc4 hmψ ((thr_fr τ4).tr (scr_m f52))⟩
  · unfold fX4_colourings
    rw [c_hasSet_yes hc.1 hw.1 hS, Option.bind_some, if_neg (by decide), if_neg (nI_pos (by omega)), nl_99, if_pos (nI_le (by omega) (by decide)), nl_2, a1, Option.bind_some, b1, Option.bind_some, e1, Option.bind_some, pk_ok (by omega) (by decide), nI_clamp (by omega), e3 S (by omega), hH]
    rfl
  · unfold fX5_colourings
    rw [ps_let, show ps_ui τ4 45 0 0 = thr τ4 from rfl, m_isSet_yes hmω.1 hw.1 hS, Option.bind_some, if_neg (by decide), nl_99, m_isIn_yes (nI_pos (by omega)) (nI_nlt (by omega) (by decide)), Option.bind_some, if_neg (by decide), y1, Option.bind_some, hl, Option.bind_some]
