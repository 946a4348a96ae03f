/-! power -/
theorem fill_from {step : Int32 × ps_S → Option ((Int32 × ps_S) ⊕ ps_S)} {σ : ps_S} {N d0 k : Nat} {v : Nat → Int32} (hd : d0 ≤ N) (hN : N < 1000)
    (h0 : ∀ x, x < d0 → σ.1 k x = v x)
    (hs : ∀ i τ, d0 ≤ i → i < N → ps_fr (fun q => q = k) σ τ → (∀ x, x < i → τ.1 k x = v x) → (∀ x, i ≤ x → τ.1 k x = σ.1 k x) → step (nI i, τ) = some (.inl (nI (i + 1), ps_ui τ k i (v i))))
    (hx : ∀ τ, ps_fr (fun q => q = k) σ τ → step (nI N, τ) = some (.inr τ)) : ∃ τ, ps_lp step 100000 (nI d0, σ) = some τ ∧ ps_fr (fun q => q = k) σ τ ∧ (∀ x, x < N → τ.1 k x = v x) ∧ ∀ x, N ≤ x → τ.1 k x = σ.1 k x := by
  obtain ⟨x, h1, h2, h3, h4⟩ := ps_for (step := step) (N - d0)
    (fun i s => s.1 = nI (d0 + i) ∧ ps_fr (fun q => q = k) σ s.2 ∧ (∀ x, x < d0 + i → s.2.1 k x = v x) ∧ ∀ x, d0 + i ≤ x → s.2.1 k x = σ.1 k x)
    (fun s => ps_fr (fun q => q = k) σ s ∧ (∀ x, x < N → s.1 k x = v x) ∧ ∀ x, N ≤ x → s.1 k x = σ.1 k x)
    (F := 100000) (s := (nI d0, σ)) (by
      rintro i ⟨a, τ⟩ hi ⟨e, hf, hv, ho⟩
      simp only at e hf hv ho
      subst e
      refine ⟨_, hs (d0 + i) τ (by omega) (by omega) hf hv ho, rfl, hf.tr (ps_fr_ui rfl), fun x hx => ?_, fun x hx => ?_⟩
      · show (ps_ui τ k (d0 + i) (v (d0 + i))).1 k x = _
        rw [pu_i]
        by_cases e : x = d0 + i
        · rw [if_pos ⟨rfl, e⟩, e]
        · rw [if_neg (fun q => e q.2)]; exact hv x (by omega)
      · show (ps_ui τ k (d0 + i) (v (d0 + i))).1 k x = _
        rw [pu_i, if_neg (fun q => by omega)]; exact ho x (by omega)) (by
      rintro ⟨a, τ⟩ ⟨e, hf, hv, ho⟩
      simp only at e hf hv ho
      subst e
      rw [show d0 + (N - d0) = N by omega] at hv ho ⊢
      exact ⟨τ, hx τ hf, hf, hv, ho⟩) ⟨by rw [Nat.add_zero], ps_fr.rf, fun x hx => h0 x (by omega), fun _ _ => rfl⟩ (by omega)
  exact ⟨x, h1, h2, h3, h4⟩
theorem m_term {a b : Nat} (ha : a < 1000003) (hb : b < 1000003) : ((Int32.toInt64 (nI a) * Int32.toInt64 (nI b)) - (Int32.toInt64 (nI a) * Int32.toInt64 (nI b)) / 1000003 * 1000003).toInt = (g_red ((a : Int) * (b : Int)) : Int) := by
  have wa := wid (v := a) (by omega)
  have wb := wid (v := b) (by omega)
  generalize Int32.toInt64 (nI a) = x at wa
  generalize Int32.toInt64 (nI b) = y at wb
  have hm := mul_b (x := x) (y := y) (by omega) (by omega)
  have h0 : 0 ≤ (a : Int) * (b : Int) := Int.mul_nonneg (by omega) (by omega)
  obtain ⟨-, -, -, j4⟩ := j_rem (x * y)
  rw [j4 (by rw [hm, wa, wb]; exact h0), hm, wa, wb]
theorem m_laysOne {σ : ps_S} {a : gG} (h : m_G σ 47 0 a) (hw : g_wf a) : ∃ τ, fX5_laysOne σ = some τ ∧ ps_fr (fun q => q = 52) σ τ ∧ ∀ s, s < 2 ^ g_n a → τ.1 52 s = nI (if s = 0 then 1 else 0) := by
  have h8 := hw.1
  have h2 := p2_le _ h8
  have h3 := p2_pos (g_n a)
  unfold fX5_laysOne
  obtain ⟨τ, t1, t2, t3, t4⟩ := fill_row (step := fun s => fX5_laysOne_S2 s.1 s.2) (σ := σ) (N := 2 ^ g_n a) (k := 52) (v := fun s => nI (if s = 0 then 1 else 0)) (by omega) (by
      intro i τ hi hf hv ho
      have hG := h.fr hf (by decide)
      show fX5_laysOne_S2 (nI i) τ = _
      unfold fX5_laysOne_S2 fX5_laysOne_J24
      simp only [ps_let]
      rw [m_all hG hw, Option.bind_some, if_neg (nI_nlt (by omega) (by omega)), pk_ok (by omega) (by decide), pk_ok (by omega) (by decide), nI_clamp (by omega), nI_1]
      by_cases c : i = 0
      · rw [if_pos (by rw [c]; rfl), if_pos c]; rfl
      · rw [if_neg (by rw [nI0_iff (by omega)]; exact c), if_neg c]; rfl) (by
      intro τ hf
      have hG := h.fr hf (by decide)
      show fX5_laysOne_S2 (nI (2 ^ g_n a)) τ = _
      unfold fX5_laysOne_S2
      rw [m_all hG hw, Option.bind_some, if_pos (nI_lt (by omega) (by omega))])
  exact ⟨τ, by rw [t1, Option.bind_some], t2, t3⟩
theorem red_b (z : Int) : -(1000003 : Int) ≤ (g_red z : Int) ∧ (g_red z : Int) ≤ 1000003 := by
  have := g_red_lt z
  omega
theorem m_apart1 {σ : ps_S} {a : gG} {r s : Nat} {X : Nat → Int} (h : m_G σ 47 0 a) (hw : g_wf a) (hr : r < 4) (hs : s < 2 ^ g_n a) (hX : ∀ s, s < 2 ^ g_n a → σ.1 53 s = nI (g_red (X s))) : ∃ e, ps_lp (fun q => fX5_apart_S43 (nI r) (nI s) σ q.1 q.2) 100000 ((0 : Int64), nI s) = some e ∧ pe 1000003 e.toInt (s_cv (fun p => (g_f a r p : Int)) X s) := by
  have h8 := hw.1
  have h2 := p2_le _ h8
  have hP : g_P = 1000003 := rfl
  let g : Nat → Int := fun p => (g_red ((g_f a r p : Int) * (g_red (X (s ^^^ p)) : Int)) : Int)
  have hg : ∀ p, p ≤ s → -(1000003 : Int) ≤ g p ∧ g p ≤ 1000003 := fun p _ => red_b _
  have hstep : ∀ p, g_sub p s → fX5_numberOf (nI r) (nI p) σ = some (nI (g_f a r p)) ∧ nI s &&& (nI p ^^^ (-1)) = nI (s ^^^ p) ∧ s ^^^ p < 256 ∧ ((Int32.toInt64 (nI (g_f a r p)) * Int32.toInt64 (σ.1 53 (s ^^^ p))) - (Int32.toInt64 (nI (g_f a r p)) * Int32.toInt64 (σ.1 53 (s ^^^ p))) / 1000003 * 1000003).toInt = g p := fun p hp => by
    have hps := sub_le hp
    have hx : s ^^^ p < 2 ^ g_n a := xor_lt hs (by omega)
    refine ⟨m_numberOf h hr (by omega), by rw [df_int, df_xor hp], by omega, ?_⟩
    rw [hX _ hx]
    exact m_term (by have := hw.2.2.2.2.2.2.2.1 r p; omega) (g_red_lt _)
  obtain ⟨e, e1, e2⟩ := ps_subs (step := fun q => fX5_apart_S43 (nI r) (nI s) σ q.1 q.2) s (fun p q => q.2 = nI p ∧ q.1.toInt = u_d s g p) (fun e => e.toInt = u_d s g 0 + g 0) (by
      rintro p ⟨e, c⟩ hp hsub ⟨q1, q2⟩
      simp only at q1 q2
      subst q1
      obtain ⟨s1, s2, s3, s4⟩ := hstep p hsub
      have hps := sub_le hsub
      have b1 := u_d_bound (c := 1000003) (by decide) hg p
      have b2 := hg p hps
      refine ⟨(e + ((Int32.toInt64 (nI (g_f a r p)) * Int32.toInt64 (σ.1 53 (s ^^^ p))) - (Int32.toInt64 (nI (g_f a r p)) * Int32.toInt64 (σ.1 53 (s ^^^ p))) / 1000003 * 1000003), nI ((p - 1) &&& s)), ?_, rfl, ?_⟩
      · show fX5_apart_S43 (nI r) (nI s) σ e (nI p) = _
        unfold fX5_apart_S43
        simp only [ps_let]
        rw [s1, Option.bind_some, s2, pk_ok s3 (by decide), nI_clamp (by omega), if_neg (nI_ne0 hp (by omega)), n1, pk_sub (by omega), fa_and]
      · show (e + _).toInt = _
        rw [fb_addL (by rw [q2, s4]; omega) (by rw [q2, s4]; omega), q2, s4, u_d_step _ hsub hp]) (by
      rintro ⟨e, c⟩ ⟨q1, q2⟩
      simp only at q1 q2
      subst q1
      have h00 : g_sub 0 s := df_sub.mp (df_0 s)
      obtain ⟨s1, s2, s3, s4⟩ := hstep 0 h00
      have b1 := u_d_bound (c := 1000003) (by decide) hg 0
      have b2 := hg 0 (by omega)
      refine ⟨e + ((Int32.toInt64 (nI (g_f a r 0)) * Int32.toInt64 (σ.1 53 (s ^^^ 0))) - (Int32.toInt64 (nI (g_f a r 0)) * Int32.toInt64 (σ.1 53 (s ^^^ 0))) / 1000003 * 1000003), ?_, ?_⟩
      · show fX5_apart_S43 (nI r) (nI s) σ e (nI 0) = _
        unfold fX5_apart_S43
        simp only [ps_let]
        rw [s1, Option.bind_some, s2, pk_ok s3 (by decide), nI_clamp (by omega), if_pos (by decide)]
      · rw [fb_addL (by rw [q2, s4]; omega) (by rw [q2, s4]; omega), q2, s4]) (F := 100000) (st := ((0 : Int64), nI s)) ⟨rfl, by
        show (0 : Int64).toInt = _
        rw [u_d_top]; rfl⟩ (by omega)
  refine ⟨e, e1, ?_⟩
  rw [e2, ← u_d_0]
  refine pe_u (fun p hp hsub => ?_)
  exact (pe_red.mpr (red_red _)).tr (pe.ml _ (pe_red.mpr (red_red _)))
theorem m_apart {σ : ps_S} {a : gG} {r : Nat} {X : Nat → Int} (h : m_G σ 47 0 a) (hw : g_wf a) (hr : r < 4) (hX : ∀ s, s < 2 ^ g_n a → σ.1 52 s = nI (g_red (X s))) : ∃ τ, fX5_apart (nI r) σ = some τ ∧ ps_fr (fun q => q = 52 ∨ q = 53) σ τ ∧ ∀ s, s < 2 ^ g_n a → τ.1 52 s = nI (g_red (s_cv (fun p => (g_f a r p : Int)) X s)) := by
  have h8 := hw.1
  have h2 := p2_le _ h8
  have h3 := p2_pos (g_n a)
  unfold fX5_apart
  obtain ⟨τ, t1, t2, t3, t4⟩ := fill_row (step := fun s => fX5_apart_S2 (nI r) s.1 s.2) (σ := σ) (N := 2 ^ g_n a) (k := 53) (v := fun s => nI (g_red (X s))) (by omega) (by
      intro i τ hi hf hv ho
      have hG := h.fr hf (by decide)
      show fX5_apart_S2 (nI r) (nI i) τ = _
      unfold fX5_apart_S2
      simp only [ps_let]
      rw [m_all hG hw, Option.bind_some, if_neg (nI_nlt (by omega) (by omega)), pk_ok (by omega) (by decide), pk_ok (by omega) (by decide), nI_clamp (by omega), nI_1, (hf 52 (by decide)).1, hX i hi]) (by
      intro τ hf
      have hG := h.fr hf (by decide)
      show fX5_apart_S2 (nI r) (nI (2 ^ g_n a)) τ = _
      unfold fX5_apart_S2
      rw [m_all hG hw, Option.bind_some, if_pos (nI_lt (by omega) (by omega))])
  have hGτ := h.fr t2 (by decide)
  obtain ⟨υ, u1, u2, u3, u4⟩ := fill_row (step := fun s => fX5_apart_S30 (nI r) s.1 s.2) (σ := τ) (N := 2 ^ g_n a) (k := 52) (v := fun s => nI (g_red (s_cv (fun p => (g_f a r p : Int)) X s))) (by omega) (by
      intro i τ' hi hf hv ho
      have hG := hGτ.fr hf (by decide)
      show fX5_apart_S30 (nI r) (nI i) τ' = _
      unfold fX5_apart_S30
      simp only [ps_let]
      obtain ⟨e, e1, e2⟩ := m_apart1 (X := X) hG hw hr hi (fun s hs => by rw [(hf 53 (by decide)).1]; exact t3 s hs)
      rw [m_all hG hw, Option.bind_some, if_neg (nI_nlt (by omega) (by omega)), e1, Option.bind_some, p_rest, Option.bind_some, pk_ok (by omega) (by decide), nI_clamp (by omega), nI_1, pe_red.mp e2]) (by
      intro τ' hf
      have hG := hGτ.fr hf (by decide)
      show fX5_apart_S30 (nI r) (nI (2 ^ g_n a)) τ' = _
      unfold fX5_apart_S30
      rw [m_all hG hw, Option.bind_some, if_pos (nI_lt (by omega) (by omega))])
  exact ⟨υ, by rw [t1, Option.bind_some, u1, Option.bind_some], (t2.wk (fun k q => Or.inr q)).tr (u2.wk (fun k q => Or.inl q)), u3⟩
theorem m_powers {σ : ps_S} {a : gG} {r k : Nat} {a3 : Int32} (h : m_G σ 47 0 a) (hw : g_wf a) (hr : r < 4) (hk : k ≤ 99) (h0 : ∀ s, s < 2 ^ g_n a → σ.1 52 s = nI (if s = 0 then 1 else 0)) : ∃ τ, ps_lp (fun s => fX5_power_S40 (nI r) (nI k) a3 s.1 s.2) 100000 ((0 : Int32), σ) = some τ ∧ ps_fr (fun q => q = 52 ∨ q = 53) σ τ ∧ ∀ s, s < 2 ^ g_n a → τ.1 52 s = nI (g_red (s_pw (fun p => (g_f a r p : Int)) k s)) := by
  obtain ⟨τ, t1, t2, t3⟩ := ps_for (step := fun s => fX5_power_S40 (nI r) (nI k) a3 s.1 s.2) k (fun i q => q.1 = nI i ∧ ps_fr (fun q => q = 52 ∨ q = 53) σ q.2 ∧ ∀ s, s < 2 ^ g_n a → q.2.1 52 s = nI (g_red (s_pw (fun p => (g_f a r p : Int)) i s))) (fun τ => ps_fr (fun q => q = 52 ∨ q = 53) σ τ ∧ ∀ s, s < 2 ^ g_n a → τ.1 52 s = nI (g_red (s_pw (fun p => (g_f a r p : Int)) k s))) (F := 100000) (s := ((0 : Int32), σ)) (by
      rintro i ⟨c, τ⟩ hi ⟨e, hf, hv⟩
      simp only at e hf hv
      subst e
      have hG := h.fr hf (by decide)
      obtain ⟨υ, u1, u2, u3⟩ := m_apart hG hw hr hv
      refine ⟨(nI (i + 1), υ), ?_, rfl, hf.tr u2, u3⟩
      show fX5_power_S40 (nI r) (nI k) a3 (nI i) τ = _
      unfold fX5_power_S40
      simp only [ps_let]
      rw [if_neg (nI_ge hi (by omega)), u1, Option.bind_some, nI_1]) (by
      rintro ⟨c, τ⟩ ⟨e, hf, hv⟩
      simp only at e hf hv
      subst e
      refine ⟨τ, ?_, hf, hv⟩
      show fX5_power_S40 (nI r) (nI k) a3 (nI k) τ = _
      unfold fX5_power_S40
      rw [if_pos (nI_le (by omega) (by omega))]) ⟨rfl, ps_fr.rf, fun s hs => by
        rw [h0 s hs, s_pw]
        by_cases c : s = 0
        · rw [if_pos c, if_pos c]; rfl
        · rw [if_neg c, if_neg c]; rfl⟩ (by omega)
  exact ⟨τ, t1, t2, t3⟩
/-- call 13: power -/
theorem op_power {σ : ps_S} (x y w : Int32) (h : b_R σ) : ∃ (r : Int32) (τ υ : ps_S), fX4_power x y w σ = some (r, τ) ∧ fX5_power x y w τ = some (r, υ) ∧ b_R υ := by
  obtain ⟨A, hw, hc, hm⟩ := h
  have hm' := thr_R hm
  have hN := g_N_le hw.1
  have hP : g_P = 1000003 := rfl
  have bad : (fX4_power x y w σ = some (-1, σ) ∧ fX5_power x y w σ = some (-1, thr σ)) → ∃ (r : Int32) (τ υ : ps_S), fX4_power x y w σ = some (r, τ) ∧ fX5_power x y w τ = some (r, υ) ∧ b_R υ := fun q => ⟨-1, σ, thr σ, q.1, q.2, b_keep hw hc hm' (thr_fr σ)⟩
  rcases row_cases (a_g A) x with hx | ⟨hn, rf, hf, rfl⟩
  · refine bad ⟨?_, ?_⟩
    · unfold fX4_power
      rw [c_hasRow_no hc.1 hw.1 hx]; rfl
    · unfold fX5_power
      simp only [ps_let]
      rw [m_isRow_no hm'.1 hw.1 hx]; rfl
  rcases row_cases (a_g A) w with hwx | ⟨-, r, hr, rfl⟩
  · refine bad ⟨?_, ?_⟩
    · unfold fX4_power
      rw [c_hasRow_yes hc.1 hw.1 hf hn, Option.bind_some, if_neg (by decide), c_hasRow_no hc.1 hw.1 hwx]; rfl
    · unfold fX5_power
      simp only [ps_let]
      rw [m_isRow_yes hm'.1 hw.1 hf hn, Option.bind_some, if_neg (by decide), m_isRow_no hm'.1 hw.1 hwx]; rfl
  rcases n_cases y 100 (by decide) with hv | ⟨hv, hv0⟩ | ⟨k, hk, rfl⟩
  · refine bad ⟨?_, ?_⟩
    · unfold fX4_power
      rw [c_hasRow_yes hc.1 hw.1 hf hn, Option.bind_some, if_neg (by decide), c_hasRow_yes hc.1 hw.1 hr hn, Option.bind_some, if_neg (by decide), if_pos hv]
    · unfold fX5_power
      simp only [ps_let]
      rw [m_isRow_yes hm'.1 hw.1 hf hn, Option.bind_some, if_neg (by decide), m_isRow_yes hm'.1 hw.1 hr hn, Option.bind_some, if_neg (by decide), m_isIn_no (Or.inl hv)]; rfl
  · have h7 : (99 : Int32) < y := lt_of_le (n := 100) (by decide) (by decide) hv hv0
    refine bad ⟨?_, ?_⟩
    · unfold fX4_power
      rw [c_hasRow_yes hc.1 hw.1 hf hn, Option.bind_some, if_neg (by decide), c_hasRow_yes hc.1 hw.1 hr hn, Option.bind_some, if_neg (by decide), if_neg hv0, if_neg (fa_of_lt h7).2.1]
    · unfold fX5_power
      simp only [ps_let]
      rw [m_isRow_yes hm'.1 hw.1 hf hn, Option.bind_some, if_neg (by decide), m_isRow_yes hm'.1 hw.1 hr hn, Option.bind_some, if_neg (by decide), m_isIn_no (Or.inr h7)]; rfl
  have hNp := g_N_pos hn
  have h2 := p2_le _ hw.1.1
  have h3 := p2_pos (g_n (a_g A))
  have hb := hw.1.2.2.2.2.2.2.2.1 rf 0
  obtain ⟨τ, t1, t2, t3, t4⟩ := c_slopesOfPower (σ := σ) (b := g_f (a_g A) rf 0) (k := k) (by omega) (by omega)
  have hcτ : c_R τ A := c_R_scr hc (t2.wk (fun k q => by unfold c_scr; omega))
  obtain ⟨ω, w1, w2, w3⟩ := c_composeRow (sl := fun d => s_ff (k : Int) d * (g_f (a_g A) rf 0 : Int) ^ (k - d)) hw hcτ hn hf hr (fun d hd => by rw [t4 d hd]; exact (v_pw_ok (by omega) hd).1) (by rw [t4 0 (by decide)]; exact (v_pw_ok (by omega) (by decide)).2 rfl)
  have eH : ∀ s, s < 256 → s_H (fun s => (g_f (a_g A) rf s : Int)) (fun d => s_ff (k : Int) d * (g_f (a_g A) rf 0 : Int) ^ (k - d)) 0 s = s_pw (fun s => (g_f (a_g A) rf s : Int)) k s := fun s hs => by
    have := H_pw (fun s => (g_f (a_g A) rf s : Int)) k s hs 0
    rw [s_ff, Int.one_mul, Nat.sub_zero] at this
    exact this
  have fc : ps_fr c_own σ ω := ((t2.wk (fun k q => by unfold c_own; omega))).tr w3
  have hmω : m_R (thr ω) A := thr_R (m_R_c hm fc)
  obtain ⟨χ, x1, x2, x3⟩ := m_laysOne hmω.1 hw.1
  have hGχ := hmω.1.fr x2 (by decide)
  obtain ⟨ψ, y1, y2, y3⟩ := m_powers (r := rf) (k := k) (a3 := nI r) hGχ hw.1 hf (by omega) x3
  have f52 : ps_fr m_scr (thr ω) ψ := (x2.wk (fun k q => by unfold m_scr; omega)).tr (y2.wk (fun k q => by unfold m_scr; omega))
  have hmψ : m_R ψ A := m_R_scr hmω f52
  obtain ⟨φ, z1, z2⟩ := op_row (q := g_all (a_g A)) hw w2 (fun s _ => g_red_lt _) hr hn (by unfold g_all; omega) ((thr_fr ω).tr (scr_m f52)) hmψ (fun s hs => by rw [eH s (by omega)]; exact y3 s (by omega))
  refine ⟨nI (g_red (s_H (fun s => (g_f (a_g A) rf s : Int)) (fun d => s_ff (k : Int) d * (g_f (a_g A) rf 0 : Int) ^ (k - d)) 0 (g_all (a_g A)))), ω, φ, ?_, ?_, z2⟩
  · unfold fX4_power
    rw [c_hasRow_yes hc.1 hw.1 hf hn, Option.bind_some, if_neg (by decide), c_hasRow_yes hc.1 hw.1 hr hn, Option.bind_some, if_neg (by decide), if_neg (nI_pos (by omega)), nl_99, if_pos (nI_le (by omega) (by decide)), pk_ok (by omega) (by decide), n0, pk_ok (by decide) (by decide), nI_clamp (by omega), nI_clamp (by decide), c_row hc.1 hf (by decide), t1, Option.bind_some, w1, Option.bind_some]
  · unfold fX5_power
    simp only [ps_let]
    rw [m_isRow_yes hmω.1 hw.1 hf hn, Option.bind_some, if_neg (by decide), m_isRow_yes hmω.1 hw.1 hr hn, Option.bind_some, if_neg (by decide), nl_99, m_isIn_yes (nI_pos (by omega)) (nI_nlt (by omega) (by decide)), Option.bind_some, if_neg (by decide), x1, Option.bind_some, y1, Option.bind_some, m_all hmψ.1 hw.1, Option.bind_some, show nI (2 ^ g_n (a_g A) - 1) = nI (g_all (a_g A)) from rfl, z1, Option.bind_some]
