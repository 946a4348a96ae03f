/-! name: both sides -/
theorem c_keepNames {σ : ps_S} {A : gA} (hw : a_wf A) (hc : c_R σ A) {a b : Nat} (ha : a < g_n (a_g A)) (hb : b < g_n (a_g A)) (hab : a ≠ b) : ∃ τ, fX0_keepNames (nI a) (nI b) σ = some τ ∧ ps_fr acts_own σ τ ∧ c_K τ (A_push A (g_nm a b (a_g A))) := by
  obtain ⟨nx, ln, wa, pw, fa, fb, h0, h1, h2, h3, h4, h5, h6, h7, h8⟩ := hc.2.1
  have hk := hw.2.1
  unfold fX0_keepNames
  simp only [ps_let]
  rw [h2, pk_ok h0 (by decide), nI_clamp (by omega)]
  have e1 : (ps_ui σ 34 nx (nI a)).1 22 1 = nI nx := by rw [pu_i, if_neg (by omega)]; exact h2
  rw [e1, pk_ok h0 (by decide), nI_clamp (by omega), nl_5]
  rw [c_goOn (k := a_k A) h0 hk (by rw [pu_i, if_neg (by omega), pu_i, if_neg (by omega)]; exact h1) (by rw [pu_i, if_neg (by omega), pu_i, if_neg (by omega)]; exact h2), Option.bind_some]
  refine ⟨_, rfl, ?_, ?_⟩
  · refine ((((ps_fr_ui ?_).tr (ps_fr_ui ?_)).tr (ps_fr_ui ?_)).tr (ps_fr_ui ?_)).tr (ps_fr_ui ?_) <;> (unfold acts_own; omega)
  · refine c_K_push (l0 := 5) (w0 := wa nx) (p0 := pw nx) (x0 := a) (y0 := b) hk h0 h3 h4 h5 h6 h7 h8 ?_ ?_ (fun i hi => ?_) (fun i s hi hs => ?_) (fun i hi => ?_) (fun i hi => ?_) (fun i hi => ?_) ?_
    · simp [pu_i]
    · simp [pu_i]
    · simp only [pu_i]
      by_cases e : i = nx
      · simp [e]
      · rw [if_neg (by omega), if_neg (by omega), if_neg (by omega), if_neg (by omega), if_neg (by omega), if_neg e]
    · simp only [pu_i]
      rw [if_neg (by omega), if_neg (by omega), if_neg (by omega), if_neg (by omega), if_neg (by omega)]
      by_cases e : i = nx
      · rw [if_pos e, e, h4 nx s h0 hs]
      · rw [if_neg e]
    · simp only [pu_i2]
      by_cases e : i = nx
      · rw [if_pos e, e, h5 nx h0]
      · rw [if_neg e]
    · simp only [pu_i]
      rw [if_neg (by omega), if_neg (by omega), if_neg (by omega), if_neg (by omega)]
      by_cases e : i = nx
      · rw [if_pos ⟨trivial, e⟩, if_pos e]
      · rw [if_neg (by omega), if_neg e]
    · simp only [pu_i]
      rw [if_neg (by omega), if_neg (by omega), if_neg (by omega)]
      by_cases e : i = nx
      · rw [if_pos ⟨trivial, e⟩, if_pos e]
      · rw [if_neg (by omega), if_neg (by omega), if_neg e]
    · exact Or.inl ⟨rfl, ha, hb, hab, (g_nm_nm hab).symm⟩
/-- call 27: name -/
theorem op_name {σ : ps_S} (x y : Int32) (h : b_R σ) : ∃ (r : Int32) (τ υ : ps_S), fX4_name x y σ = some (r, τ) ∧ fX5_name x y τ = some (r, υ) ∧ b_R υ := by
  obtain ⟨A, hw, hc, hm⟩ := h
  have hm' := thr_R hm
  have hn := hw.1.1
  have no : (fX4_name x y σ = some (-1, σ)) → (fX5_name x y σ = some (-1, thr σ)) → ∃ (r : Int32) (τ υ : ps_S), fX4_name x y σ = some (r, τ) ∧ fX5_name x y τ = some (r, υ) ∧ b_R υ := fun h1 h2 => ⟨-1, σ, thr σ, h1, h2, b_keep hw hc hm' (thr_fr σ)⟩
  rcases thing_cases (a_g A) hw.1 x with hx | ⟨a, ha, rfl⟩
  · refine no ?_ ?_
    · unfold fX4_name
      rw [c_hasThing_no hc.1 hx]; rfl
    · unfold fX5_name
      simp only [ps_let]
      rw [m_isThing_no hm'.1 hw.1 hx]; rfl
  · rcases thing_cases (a_g A) hw.1 y with hy | ⟨b, hb, rfl⟩
    · refine no ?_ ?_
      · unfold fX4_name
        rw [c_hasThing_yes hc.1 hw.1 ha, Option.bind_some, if_neg (by decide), c_hasThing_no hc.1 hy]; rfl
      · unfold fX5_name
        simp only [ps_let]
        rw [m_isThing_yes hm'.1 hw.1 ha, Option.bind_some, if_neg (by decide), m_isThing_no hm'.1 hw.1 hy]; rfl
    · by_cases hab : a = b
      · refine no ?_ ?_
        · unfold fX4_name
          rw [c_hasThing_yes hc.1 hw.1 ha, Option.bind_some, if_neg (by decide), c_hasThing_yes hc.1 hw.1 hb, Option.bind_some, if_neg (by decide), if_pos (by rw [hab])]
        · unfold fX5_name
          simp only [ps_let]
          rw [m_isThing_yes hm'.1 hw.1 ha, Option.bind_some, if_neg (by decide), m_isThing_yes hm'.1 hw.1 hb, Option.bind_some, if_neg (by decide), if_pos (by rw [hab])]
      · have nab : ¬ nI a = nI b := fun q => hab ((nI_eq (by omega) (by omega)).mp q)
        obtain ⟨τ, t1, t2, t3⟩ := c_keepNames hw hc ha hb hab
        have hG := c_G_acts hc.1 t2
        obtain ⟨υ, u1, u2, u3, u4⟩ := c_swapNames hG hw.1 ha hb hab
        have hwf := g_nm_wf hw.1 ha hb hab
        have hcR := c_R_push hc t2 t3 u2 (fun k _ _ q => by omega) u4
        have fc : ps_fr c_own σ υ := (acts_c t2).tr (u2.wk (fun k q => by unfold c_own; omega))
        have hm2 := thr_R (m_R_c hm fc)
        obtain ⟨ω, s1, s2, s3, s4, s5⟩ := m_snap hw hm2
        have hmω := hm2.1.fr s2 (by decide)
        obtain ⟨ρ, r1, r2, r3⟩ := m_names hmω hw.1 ha hb hab (nI (g_cp (a_g A) a b))
        refine ⟨nI (g_cp (a_g A) a b), υ, ρ, ?_, ?_, b_both (σ := σ) (A := A) (A_push_wf hw hwf) hcR (((thr_fr υ).tr (snap_m s2)).tr (r2.wk (fun k q => by unfold m_own; omega))) (m_R_push hm2 s2 s3 s4 s5 r2 (fun k _ _ h q => by omega) r3)⟩
        · unfold fX4_name
          rw [c_hasThing_yes hc.1 hw.1 ha, Option.bind_some, if_neg (by decide), c_hasThing_yes hc.1 hw.1 hb, Option.bind_some, if_neg (by decide), if_neg nab, t1, Option.bind_some, u1, Option.bind_some, c_countParted u4 hwf (by omega) (by omega), Option.bind_some, g_cp_nm (by omega) (by omega) hab]
        · unfold fX5_name
          simp only [ps_let]
          rw [m_isThing_yes hm2.1 hw.1 ha, Option.bind_some, if_neg (by decide), m_isThing_yes hm2.1 hw.1 hb, Option.bind_some, if_neg (by decide), if_neg nab, s1, Option.bind_some, m_countParted hmω hw.1 (by omega) (by omega), Option.bind_some]
          exact r1
