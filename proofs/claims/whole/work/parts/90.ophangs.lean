/-! hangs -/
theorem sh_1 : ∀ p, p < 29 → (1 : Int32) <<< (nI p &&& 31) = nI (2 ^ p) := by decide +kernel
theorem m_hang1 {σ : ps_S} {a : gG} {s : Nat} {a1 : Int32} {X : Nat → Int} (h : m_G σ 47 0 a) (hw : g_wf a) (hs : s < 2 ^ g_n a) (h0 : s ≠ 0) (hX : ∀ x, x < s → σ.1 58 x = Int32.ofInt (X x)) (hb : σ.1 58 s = Int32.ofInt (g_ms a 4 s : Int)) : ∃ τ, ps_lp (fun q => fX5_hangs_S48 a1 (nI s) q.1 q.2) 100000 (nI ((s - 1) &&& s), σ) = some τ ∧ ps_fr (fun q => q = 58) σ τ ∧ τ.1 58 s = Int32.ofInt ((g_ms a 4 s : Int) - u_s s (fun p => if p.testBit (g_lt s) = true ∧ p ≠ s then X p * (g_ms a 4 (s ^^^ p) : Int) else 0)) ∧ ∀ x, x ≠ s → τ.1 58 x = σ.1 58 x := by
  have h8 := hw.1
  have h2 := p2_le _ h8
  let g : Nat → Int := fun p => if p.testBit (g_lt s) = true ∧ p ≠ s then X p * (g_ms a 4 (s ^^^ p) : Int) else 0
  have hz : g 0 = 0 := if_neg (fun q => by rw [Nat.zero_testBit] at q; exact absurd q.1 (by decide))
  have hus : u_d s g 0 = u_s s g := by rw [u_d_0, hz, Int.add_zero]
  obtain ⟨τ, t1, t2, t3, t4⟩ := ps_subs2 (step := fun q => fX5_hangs_S48 a1 (nI s) q.1 q.2) s ((s - 1) &&& s) (fun p q => p < s ∧ q.1 = nI p ∧ ps_fr (fun q => q = 58) σ q.2 ∧ q.2.1 58 s = Int32.ofInt ((g_ms a 4 s : Int) - u_d s g p) ∧ ∀ x, x ≠ s → q.2.1 58 x = σ.1 58 x) (fun τ => ps_fr (fun q => q = 58) σ τ ∧ τ.1 58 s = Int32.ofInt ((g_ms a 4 s : Int) - u_d s g 0) ∧ ∀ x, x ≠ s → τ.1 58 x = σ.1 58 x) (by
      rintro p ⟨c, τ⟩ hp hsub ⟨q0, q1, hf, hv, ho⟩
      simp only at q1 hf hv ho
      subst q1
      have hps := sub_le hsub
      have hlt : s ^^^ p < 256 := xor256 (by omega) (by omega)
      have hG := h.fr hf (by decide)
      have hlow := low_test (S := s) (p := p) (by omega) h0
      have hnx : (p - 1) &&& s < s := by have := pred_lt (s := s) hp; omega
      cases hb : p.testBit (g_lt s)
      · refine ⟨(nI ((p - 1) &&& s), τ), ?_, hnx, rfl, hf, ?_, ho⟩
        · show fX5_hangs_S48 a1 (nI s) (nI p) τ = _
          unfold fX5_hangs_S48 fX5_hangs_J88
          simp only [ps_let]
          rw [if_neg (nI_nle hp (by omega)), if_pos (hlow.mpr hb), n1, pk_sub (by omega), fa_and]
        · show τ.1 58 s = _
          rw [u_d_step _ hsub hp, hv]
          have : g p = 0 := if_neg (fun q => by rw [hb] at q; exact absurd q.1 (by decide))
          rw [this, Int.add_zero]
      · have hg : g p = X p * (g_ms a 4 (s ^^^ p) : Int) := if_pos ⟨hb, by omega⟩
        have hpi := pi_28 hw hlt
        refine ⟨(nI ((p - 1) &&& s), ps_ui τ 58 s (Int32.ofInt ((g_ms a 4 s : Int) - u_d s g p - X p * (g_ms a 4 (s ^^^ p) : Int)))), ?_, hnx, rfl, hf.tr (ps_fr_ui rfl), ?_, fun x hx => ?_⟩
        · show fX5_hangs_S48 a1 (nI s) (nI p) τ = _
          unfold fX5_hangs_S48 fX5_hangs_J88
          simp only [ps_let]
          rw [if_neg (nI_nle hp (by omega)), if_neg (fun q => by rw [hlow.mp q] at hb; exact absurd hb (by decide)), pk_ok (by omega) (by decide), pk_ok (by omega) (by decide), df_int, df_xor hsub, m_pairsIn hG hw hlt, Option.bind_some, pk_ok (by omega) (by decide), show nI (g_p2 a (s ^^^ p) / 2) = nI (g_pi a (s ^^^ p)) from rfl, sh_1 _ (by omega), nI_clamp (by omega), nI_clamp (by omega), hv, ho p (by omega), hX p q0, n1, pk_sub (by omega), fa_and]
          rw [show nI (2 ^ g_pi a (s ^^^ p)) = Int32.ofInt (g_ms a 4 (s ^^^ p) : Int) from rfl, ← Int32.ofInt_mul, ← Int32.ofInt_sub]
        · show (ps_ui τ 58 s _).1 58 s = _
          rw [pu_i, if_pos ⟨rfl, rfl⟩, u_d_step _ hsub hp, hg]
          congr 1
          omega
        · show (ps_ui τ 58 s _).1 58 x = _
          rw [pu_i, if_neg (fun q => hx q.2)]
          exact ho x hx) (by
      rintro ⟨c, τ⟩ ⟨q0, q1, hf, hv, ho⟩
      simp only at q1 hf hv ho
      subst q1
      refine ⟨τ, ?_, hf, hv, ho⟩
      show fX5_hangs_S48 a1 (nI s) (nI 0) τ = _
      unfold fX5_hangs_S48
      rw [if_pos (by decide)]) (F := 100000) (st := (nI ((s - 1) &&& s), σ)) (sub_and _ _) ⟨pred_lt (by omega), rfl, ps_fr.rf, by
        show σ.1 58 s = _
        rw [hb, u_d_step _ (sub_refl s) (by omega), u_d_top]
        have : g s = 0 := if_neg (fun q => q.2 rfl)
        rw [this]; congr 1, fun _ _ => rfl⟩ (by have := pred_lt (a := s) (s := s) (by omega); omega)
  refine ⟨τ, t1, t2, ?_, t4⟩
  rw [t3, hus]
theorem m_hangs {σ : ps_S} {a : gG} {S : Nat} (h : m_G σ 47 0 a) (hw : g_wf a) (hS : S < 2 ^ g_n a) (hz : σ.1 58 0 = 0) : ∃ τ, ps_lp (fun q => fX5_hangs_S24 (nI S) q.1 q.2) 100000 (nI 1, σ) = some τ ∧ ps_fr (fun q => q = 58) σ τ ∧ ∀ T, T ≤ S → τ.1 58 T = Int32.ofInt (s_H (fun p => (g_ms a 4 p : Int)) s_rt 0 T) := by
  have h8 := hw.1
  have h2 := p2_le _ h8
  have hf0 : (g_ms a 4 0 : Int) = 1 := by
    have : g_ms a 4 0 = 2 ^ g_pi a 0 := rfl
    have h0 : g_pi a 0 = 0 := by
      have := (pi_le hw 0 (by decide)).1
      rw [g_bc_0] at this
      omega
    rw [this, h0]; rfl
  refine ps_for (step := fun q => fX5_hangs_S24 (nI S) q.1 q.2) S (fun i q => q.1 = nI (i + 1) ∧ ps_fr (fun q => q = 58) σ q.2 ∧ ∀ T, T ≤ i → q.2.1 58 T = Int32.ofInt (s_H (fun p => (g_ms a 4 p : Int)) s_rt 0 T)) (fun τ => ps_fr (fun q => q = 58) σ τ ∧ ∀ T, T ≤ S → τ.1 58 T = Int32.ofInt (s_H (fun p => (g_ms a 4 p : Int)) s_rt 0 T)) ?_ ?_ ⟨rfl, ps_fr.rf, fun T hT => by
      have : T = 0 := by omega
      subst this
      show σ.1 58 0 = _
      rw [hz, s_H0]; rfl⟩ (by omega)
  · rintro i ⟨c, τ⟩ hi ⟨e, hf, hv⟩
    simp only at e hf hv
    subst e
    have hG := h.fr hf (by decide)
    have hpi := pi_28 hw (s := i + 1) (by omega)
    have e4 : (g_ms a 4 (i + 1) : Int) = ((2 ^ g_pi a (i + 1) : Nat) : Int) := rfl
    obtain ⟨υ, u1, u2, u3, u4⟩ := m_hang1 (σ := ps_ui τ 58 (i + 1) (nI (2 ^ g_pi a (i + 1)))) (s := i + 1) (a1 := nI S) (X := fun T => s_H (fun p => (g_ms a 4 p : Int)) s_rt 0 T) (m_G_ui hG (by decide)) hw (by omega) (by omega) (fun x hx => by
      rw [pu_i, if_neg (fun q => by omega)]; exact hv x (by omega)) (by rw [pu_i, if_pos ⟨rfl, rfl⟩]; rfl)
    refine ⟨(nI (i + 1 + 1), υ), ?_, rfl, (hf.tr (ps_fr_ui rfl)).tr u2, fun T hT => ?_⟩
    · show fX5_hangs_S24 (nI S) (nI (i + 1)) τ = _
      unfold fX5_hangs_S24
      rw [if_neg (nI_nlt (by omega) (by omega)), m_pairsIn hG hw (by omega), Option.bind_some, pk_ok (by omega) (by decide), show nI (g_p2 a (i + 1) / 2) = nI (g_pi a (i + 1)) from rfl, sh_1 _ (by omega), nI_clamp (by omega)]
      simp only [ps_let]
      rw [n1, pk_sub (by omega), fa_and, u1, Option.bind_some, ← n1, nI_1]
    · show υ.1 58 T = _
      by_cases c : T = i + 1
      · subst c
        rw [u3, rt_eq (f := fun p => (g_ms a 4 p : Int)) hf0 (T := i + 1) (by omega) (by omega)]
      · rw [u4 T c, pu_i, if_neg (fun q => c q.2)]
        exact hv T (by omega)
  · rintro ⟨c, τ⟩ ⟨e, hf, hv⟩
    simp only at e hf hv
    subst e
    refine ⟨τ, ?_, hf, hv⟩
    show fX5_hangs_S24 (nI S) (nI (S + 1)) τ = _
    unfold fX5_hangs_S24
    rw [if_pos (nI_lt (by omega) (by omega))]
theorem op_hangs {σ : ps_S} (x : Int32) (h : b_R σ) : ∃ (r : Int32) (τ υ : ps_S), fX4_hangs x σ = some (r, τ) ∧ fX5_hangs x τ = some (r, υ) ∧ b_R υ := by
  obtain ⟨A, hw, hc, hm⟩ := h
  have hm' := thr_R hm
  have hN := g_N_le hw.1
  have bad : (fX4_hangs x σ = some (-1, σ) ∧ fX5_hangs x σ = some (-1, thr σ)) → ∃ (r : Int32) (τ υ : ps_S), fX4_hangs x σ = some (r, τ) ∧ fX5_hangs x τ = some (r, υ) ∧ b_R υ := fun q => ⟨-1, σ, thr σ, q.1, q.2, b_keep hw hc hm' (thr_fr σ)⟩
  rcases set_cases (a_g A) hw.1 x with hx | ⟨S, hS, rfl⟩
  · refine bad ⟨?_, ?_⟩
    · unfold fX4_hangs
      rw [c_hasSet_no hc.1 hw.1 hx]; rfl
    · unfold fX5_hangs
      rw [ps_let, show ps_ui σ 45 0 0 = thr σ from rfl, m_isSet_no hm'.1 hw.1 hx]; rfl
  have hn : g_n (a_g A) ≠ 0 := fun q => by unfold g_N at hS; rw [if_pos q] at hS; omega
  have hNp := g_N_pos hn
  have h8 := hw.1.1
  have h2 := p2_le _ h8
  obtain ⟨τ1, a1, a2, a3, -⟩ := c_measureAll (what := 4) hc.1 hw.1 (by decide)
  have g1 : c_G τ1 1 (a_g A) := c_G_fr42 hc.1 a2
  obtain ⟨τ2, b1, b2, b0, b3⟩ := c_slopesOfRoots τ1
  have g2 : c_G τ2 1 (a_g A) := g1.fr b2 (fun k h1 h2 => by omega)
  obtain ⟨τ4, e1, e2, e3⟩ := c_ex (what := 4) (sl := s_rt) g2 hw.1 (fun s hs => by rw [b0]; exact a3 s (by omega)) b3
  have fc : ps_fr c_scr σ τ4 := ((a2.wk (fun k q => by unfold c_scr; omega)).tr (b2.wk (fun k q => by unfold c_scr; omega))).tr (e2.wk (fun k q => by unfold c_scr; omega))
  have hc4 : c_R τ4 A := c_R_scr hc fc
  have hmω : m_R (thr τ4) A := thr_R (m_R_c hm (fc.wk (fun k q => by unfold c_scr at q; unfold c_own; omega)))
  have hf58 : ps_fr m_scr (thr τ4) (ps_ui (thr τ4) 58 0 0) := ps_fr_ui (by unfold m_scr; omega)
  obtain ⟨ψ, y1, y2, y3⟩ := m_hangs (σ := ps_ui (thr τ4) 58 0 0) (S := S) (m_G_ui hmω.1 (by decide)) hw.1 (by omega) (by rw [pu_i, if_pos ⟨rfl, rfl⟩])
  have f52 : ps_fr m_scr (thr τ4) ψ := hf58.tr (y2.wk (fun k q => by unfold m_scr; omega))
  have hmψ : m_R ψ A := m_R_scr hmω f52
  have o0 : ∀ {α : Type} {y : Option α}, ps_ck (0 : Int32) 256 y = y := fun {_ _} => pk_ok (i := 0) (by decide) (by decide)
  refine ⟨Int32.ofInt (s_H (fun s => (g_ms (a_g A) 4 s : Int)) s_rt 0 S), τ4, ψ, ?_, ?_, b_keep hw hc4 hmψ ((thr_fr τ4).tr (scr_m f52))⟩
  · unfold fX4_hangs
    rw [c_hasSet_yes hc.1 hw.1 hS, Option.bind_some, if_neg (by decide), nl_4, a1, Option.bind_some, b1, Option.bind_some, e1, Option.bind_some, pk_ok (by omega) (by decide), nI_clamp (by omega), e3 S (by omega), oi_32]
  · unfold fX5_hangs
    rw [ps_let, show ps_ui τ4 45 0 0 = thr τ4 from rfl, m_isSet_yes hmω.1 hw.1 hS, Option.bind_some, if_neg (by decide), o0, ps_let, show Int32.toNatClampNeg 0 = 0 from rfl, n1, y1, Option.bind_some, pk_ok (by omega) (by decide), nI_clamp (by omega), y3 S (Nat.le_refl _)]
