/-! the model's tables of ways -/
theorem lp_out {S X : Type} {step : S → Option (S ⊕ X)} {s : S} {x : X} (h : step s = some (.inr x)) {F : Nat} : ps_lp step (F + 1) s = some x := by
  simp only [ps_lp, h, Option.bind_some]
theorem fa_mul (a b : Nat) : nI a * nI b = nI (a * b) := (Int32.ofNat_mul a b).symm
theorem m_Waysa {σ : ps_S} {s : Nat} (hs : s < 256) : ∃ τ, ps_lp (fun q => fX5_laysWays_S12 (nI s) q.1 q.2) 100000 (nI 0, σ) = some τ ∧ ps_fr (fun q => q = 54) σ τ ∧ (∀ k, k < 9 → τ.1 54 (9 * s + k) = nI (if s = 0 ∧ k = 0 then 1 else 0)) ∧ ∀ x, x < 9 * s ∨ 9 * s + 9 ≤ x → τ.1 54 x = σ.1 54 x := by
  refine ps_for (step := fun q => fX5_laysWays_S12 (nI s) q.1 q.2) 9 (fun i q => q.1 = nI i ∧ ps_fr (fun q => q = 54) σ q.2 ∧ (∀ k, k < i → q.2.1 54 (9 * s + k) = nI (if s = 0 ∧ k = 0 then 1 else 0)) ∧ ∀ x, x < 9 * s ∨ 9 * s + 9 ≤ x → q.2.1 54 x = σ.1 54 x) (fun τ => ps_fr (fun q => q = 54) σ τ ∧ (∀ k, k < 9 → τ.1 54 (9 * s + k) = nI (if s = 0 ∧ k = 0 then 1 else 0)) ∧ ∀ x, x < 9 * s ∨ 9 * s + 9 ≤ x → τ.1 54 x = σ.1 54 x) ?_ ?_ ⟨rfl, ps_fr.rf, fun k hk => absurd hk (Nat.not_lt_zero _), fun _ _ => rfl⟩ (by decide)
  · rintro i ⟨c, τ⟩ hi ⟨e, hf, hv, ho⟩
    simp only at e hf hv ho
    subst e
    refine ⟨(nI (i + 1), ps_ui τ 54 (9 * s + i) (nI (if s = 0 ∧ i = 0 then 1 else 0))), ?_, rfl, hf.tr (ps_fr_ui rfl), fun k hk => ?_, fun x hx => ?_⟩
    · show fX5_laysWays_S12 (nI s) (nI i) τ = _
      unfold fX5_laysWays_S12 fX5_laysWays_J40 fX5_laysWays_J41
      simp only [ps_let]
      rw [nl_8, if_neg (nI_nlt (by omega) (by decide)), nl_9, fa_mul, nI_add, pk_ok (by omega) (by decide), pk_ok (by omega) (by decide), nI_clamp (by omega), nI_1]
      by_cases c : s = 0
      · rw [if_pos ((nI0_iff (by omega)).mpr c)]
        by_cases d : i = 0
        · rw [if_pos ((nI0_iff (by omega)).mpr d), if_pos ⟨c, d⟩]; rfl
        · rw [if_neg (fun q => d ((nI0_iff (by omega)).mp q)), if_neg (fun q => d q.2)]; rfl
      · rw [if_neg (fun q => c ((nI0_iff (by omega)).mp q)), if_neg (fun q => c q.1)]; rfl
    · show (ps_ui τ 54 (9 * s + i) _).1 54 (9 * s + k) = _
      rw [pu_i]
      by_cases c : k = i
      · rw [if_pos ⟨rfl, by omega⟩, c]
      · rw [if_neg (fun q => by omega)]
        exact hv k (by omega)
    · show (ps_ui τ 54 (9 * s + i) _).1 54 x = _
      rw [pu_i, if_neg (fun q => by omega)]
      exact ho x hx
  · rintro ⟨c, τ⟩ ⟨e, hf, hv, ho⟩
    simp only at e hf hv ho
    subst e
    refine ⟨τ, ?_, hf, hv, ho⟩
    show fX5_laysWays_S12 (nI s) (nI 9) τ = _
    unfold fX5_laysWays_S12
    rw [if_pos (by decide)]
theorem m_Waysb {σ : ps_S} {s p : Nat} (hs : s < 256) (hsub : g_sub p s) (hp : 0 < p) : ∃ τ, ps_lp (fun q => fX5_laysWays_S76 (nI s) (nI p) q.1 q.2) 100000 (nI 1, σ) = some τ ∧ ps_fr (fun q => q = 54) σ τ ∧ (∀ k, k < 9 → τ.1 54 (9 * s + k) = if k = 0 then σ.1 54 (9 * s) else σ.1 54 (9 * s + k) + σ.1 54 (9 * (s ^^^ p) + (k - 1))) ∧ ∀ x, x < 9 * s ∨ 9 * s + 9 ≤ x → τ.1 54 x = σ.1 54 x := by
  have hlt : s ^^^ p < s := by
    have h3 := sub_le (sub_rest hsub)
    have h4 : s ^^^ p ≠ s := fun q => by
      have := congrArg (fun y => s ^^^ y) q
      simp [← Nat.xor_assoc] at this
      omega
    omega
  refine ps_for (step := fun q => fX5_laysWays_S76 (nI s) (nI p) q.1 q.2) 8 (fun i q => q.1 = nI (i + 1) ∧ ps_fr (fun q => q = 54) σ q.2 ∧ (∀ k, k < 9 → q.2.1 54 (9 * s + k) = if k = 0 ∨ i < k then σ.1 54 (9 * s + k) else σ.1 54 (9 * s + k) + σ.1 54 (9 * (s ^^^ p) + (k - 1))) ∧ ∀ x, x < 9 * s ∨ 9 * s + 9 ≤ x → q.2.1 54 x = σ.1 54 x) (fun τ => ps_fr (fun q => q = 54) σ τ ∧ (∀ k, k < 9 → τ.1 54 (9 * s + k) = if k = 0 then σ.1 54 (9 * s) else σ.1 54 (9 * s + k) + σ.1 54 (9 * (s ^^^ p) + (k - 1))) ∧ ∀ x, x < 9 * s ∨ 9 * s + 9 ≤ x → τ.1 54 x = σ.1 54 x) ?_ ?_ ⟨rfl, ps_fr.rf, fun k hk => by rw [if_pos (by omega)], fun _ _ => rfl⟩ (by decide)
  · rintro i ⟨c, τ⟩ hi ⟨e, hf, hv, ho⟩
    simp only at e hf hv ho
    subst e
    refine ⟨(nI (i + 1 + 1), ps_ui τ 54 (9 * s + (i + 1)) (σ.1 54 (9 * s + (i + 1)) + σ.1 54 (9 * (s ^^^ p) + (i + 1 - 1)))), ?_, rfl, hf.tr (ps_fr_ui rfl), fun k hk => ?_, fun x hx => ?_⟩
    · show fX5_laysWays_S76 (nI s) (nI p) (nI (i + 1)) τ = _
      unfold fX5_laysWays_S76
      simp only [ps_let]
      rw [nl_8, if_neg (nI_nlt (by omega) (by decide)), df_int, df_xor hsub, nl_9, fa_mul, fa_mul, nI_add, nI_add, n1, pk_sub (by omega), pk_ok (by omega) (by decide), pk_ok (by omega) (by decide), pk_ok (by omega) (by decide), nI_clamp (by omega), nI_clamp (by omega), hv (i + 1) (by omega), if_pos (by omega), ho _ (by omega), ← n1, nI_1, show 9 * (s ^^^ p) + (i + 1) - 1 = 9 * (s ^^^ p) + (i + 1 - 1) by omega]
    · show (ps_ui τ 54 (9 * s + (i + 1)) _).1 54 (9 * s + k) = _
      rw [pu_i]
      by_cases c : k = i + 1
      · subst c
        rw [if_pos ⟨rfl, rfl⟩, if_neg (by omega)]
      · rw [if_neg (fun q => by omega), hv k hk]
        by_cases d : k = 0 ∨ i < k
        · rw [if_pos d, if_pos (by omega)]
        · rw [if_neg d, if_neg (by omega)]
    · show (ps_ui τ 54 (9 * s + (i + 1)) _).1 54 x = _
      rw [pu_i, if_neg (fun q => by omega)]
      exact ho x hx
  · rintro ⟨c, τ⟩ ⟨e, hf, hv, ho⟩
    simp only at e hf hv ho
    subst e
    refine ⟨τ, ?_, hf, fun k hk => ?_, ho⟩
    · show fX5_laysWays_S76 (nI s) (nI p) (nI (8 + 1)) τ = _
      unfold fX5_laysWays_S76
      rw [if_pos (by decide)]
    · rw [hv k hk]
      by_cases d : k = 0
      · subst d; rw [if_pos (Or.inl rfl), if_pos rfl]; rfl
      · rw [if_neg (by omega), if_neg d]
theorem m_Waysc {σ : ps_S} {a : gG} {s : Nat} (h : m_G σ 47 0 a) (hw : g_wf a) (hs : s < 2 ^ g_n a) (h0 : s ≠ 0) (hW : ∀ T k, T < s → k < 9 → σ.1 54 (9 * T + k) = Int32.ofInt (w_W (fun p => (g_ms a 1 p : Int)) k T)) (hz : ∀ k, k < 9 → σ.1 54 (9 * s + k) = nI 0) : ∃ τ, ps_lp (fun q => fX5_laysWays_S50 (nI s) q.1 q.2) 100000 (nI s, σ) = some τ ∧ ps_fr (fun q => q = 54) σ τ ∧ (∀ T k, T ≤ s → k < 9 → τ.1 54 (9 * T + k) = Int32.ofInt (w_W (fun p => (g_ms a 1 p : Int)) k T)) := by
  have h8 := hw.1
  have h2 := p2_le _ h8
  let g : Nat → Nat → Int := fun k p => if p.testBit (g_lt s) = true then (g_ms a 1 p : Int) * w_W (fun p => (g_ms a 1 p : Int)) (k - 1) (s ^^^ p) else 0
  have key : ∃ τ, ps_lp (fun q => fX5_laysWays_S50 (nI s) q.1 q.2) 100000 (nI s, σ) = some τ ∧ ps_fr (fun q => q = 54) σ τ ∧ (∀ k, k < 9 → τ.1 54 (9 * s + k) = Int32.ofInt (if k = 0 then 0 else u_d s (g k) 0)) ∧ ∀ x, x < 9 * s ∨ 9 * s + 9 ≤ x → τ.1 54 x = σ.1 54 x := by
    refine ps_subs (step := fun q => fX5_laysWays_S50 (nI s) q.1 q.2) s (fun p q => q.1 = nI p ∧ ps_fr (fun q => q = 54) σ q.2 ∧ (∀ k, k < 9 → q.2.1 54 (9 * s + k) = Int32.ofInt (if k = 0 then 0 else u_d s (g k) p)) ∧ ∀ x, x < 9 * s ∨ 9 * s + 9 ≤ x → q.2.1 54 x = σ.1 54 x) (fun τ => ps_fr (fun q => q = 54) σ τ ∧ (∀ k, k < 9 → τ.1 54 (9 * s + k) = Int32.ofInt (if k = 0 then 0 else u_d s (g k) 0)) ∧ ∀ x, x < 9 * s ∨ 9 * s + 9 ≤ x → τ.1 54 x = σ.1 54 x) ?_ ?_ ⟨rfl, ps_fr.rf, fun k hk => by
        rw [hz k hk]
        by_cases c : k = 0
        · rw [if_pos c]; rfl
        · rw [if_neg c, u_d_top]; rfl, fun _ _ => rfl⟩ (by omega)
    · rintro p ⟨c, τ⟩ hp hsub ⟨e, hf, hv, ho⟩
      simp only at e hf hv ho
      subst e
      have hps := sub_le hsub
      have hG := h.fr hf (by decide)
      have hlow := low_test (S := s) (p := p) (by omega) h0
      have skip : (∀ k, g k p = 0) → ∀ k, k < 9 → τ.1 54 (9 * s + k) = Int32.ofInt (if k = 0 then 0 else u_d s (g k) ((p - 1) &&& s)) := fun hg k hk => by
        rw [hv k hk, u_d_step _ hsub hp, hg k, Int.add_zero]
      cases hb : p.testBit (g_lt s)
      · refine ⟨(nI ((p - 1) &&& s), τ), ?_, rfl, hf, skip (fun k => if_neg (by rw [hb]; decide)), ho⟩
        show fX5_laysWays_S50 (nI s) (nI p) τ = _
        unfold fX5_laysWays_S50 fX5_laysWays_J119
        rw [if_neg (nI_nle hp (by omega)), if_pos (hlow.mpr hb), n1, pk_sub (by omega), fa_and]
        rfl
      · have hnl : ¬ ((nI p &&& nI s) &&& (-nI s)) = 0 := fun q => by rw [hlow.mp q] at hb; exact absurd hb (by decide)
        by_cases t0 : 0 < g_w a p
        · obtain ⟨υ, u1, u2, u3, u4⟩ := m_Waysb (σ := τ) (s := s) (p := p) (by omega) hsub hp
          refine ⟨(nI ((p - 1) &&& s), υ), ?_, rfl, hf.tr u2, fun k hk => ?_, fun x hx => by rw [u4 x hx]; exact ho x hx⟩
          · show fX5_laysWays_S50 (nI s) (nI p) τ = _
            unfold fX5_laysWays_S50 fX5_laysWays_J119
            rw [if_neg (nI_nle hp (by omega)), if_neg hnl, m_isTold hG hw (by omega), Option.bind_some, if_pos t0, if_neg (by decide), n1, u1, Option.bind_some, pk_sub (by omega), fa_and]
            rfl
          · show υ.1 54 (9 * s + k) = _
            rw [u3 k hk]
            by_cases c : k = 0
            · subst c
              rw [if_pos rfl, if_pos rfl]
              have := hv 0 (by decide)
              rw [if_pos rfl] at this
              exact this
            · have hxl : s ^^^ p < s := by
                have h3 := sub_le (sub_rest hsub)
                have h4 : s ^^^ p ≠ s := fun q => by
                  have := congrArg (fun y => s ^^^ y) q
                  simp [← Nat.xor_assoc] at this
                  omega
                omega
              have hgp : g k p = w_W (fun p => (g_ms a 1 p : Int)) (k - 1) (s ^^^ p) := by
                show (if p.testBit (g_lt s) = true then (g_ms a 1 p : Int) * w_W (fun p => (g_ms a 1 p : Int)) (k - 1) (s ^^^ p) else 0) = _
                rw [if_pos hb, show g_ms a 1 p = 1 from if_pos t0, show ((1 : Nat) : Int) = 1 from rfl, Int.one_mul]
              rw [if_neg c, if_neg c, hv k hk, if_neg c, ho _ (by omega), hW (s ^^^ p) (k - 1) hxl (by omega), u_d_step _ hsub hp, Int32.ofInt_add, hgp]
        · refine ⟨(nI ((p - 1) &&& s), τ), ?_, rfl, hf, skip (fun k => by
            show (if p.testBit (g_lt s) = true then (g_ms a 1 p : Int) * w_W (fun p => (g_ms a 1 p : Int)) (k - 1) (s ^^^ p) else 0) = _
            rw [if_pos hb, show g_ms a 1 p = 0 from if_neg t0, show ((0 : Nat) : Int) = 0 from rfl, Int.zero_mul]), ho⟩
          show fX5_laysWays_S50 (nI s) (nI p) τ = _
          unfold fX5_laysWays_S50 fX5_laysWays_J119
          rw [if_neg (nI_nle hp (by omega)), if_neg hnl, m_isTold hG hw (by omega), Option.bind_some, if_neg t0, if_pos rfl, n1, pk_sub (by omega), fa_and]
          rfl
    · rintro ⟨c, τ⟩ ⟨e, hf, hv, ho⟩
      simp only at e hf hv ho
      subst e
      refine ⟨τ, ?_, hf, hv, ho⟩
      show fX5_laysWays_S50 (nI s) (nI 0) τ = _
      unfold fX5_laysWays_S50
      rw [if_pos (by decide)]
  obtain ⟨τ, t1, t2, t3, t4⟩ := key
  refine ⟨τ, t1, t2, fun T k hT hk => ?_⟩
  by_cases c : T = s
  · subst c
    rw [t3 k hk, w_S _ k (by omega) h0]
    by_cases d : k = 0
    · rw [if_pos d, if_pos d]
    · rw [if_neg d, if_neg d, u_d_0]
      have : g k 0 = 0 := if_neg (by rw [Nat.zero_testBit]; decide)
      show _ = Int32.ofInt (u_d T (g k) 0 + g k 0)
      rw [this, Int.add_zero]
  · rw [t4 _ (by omega)]
    exact hW T k (by omega) hk
theorem m_laysWays {σ : ps_S} {a : gG} (h : m_G σ 47 0 a) (hw : g_wf a) (hn : g_n a ≠ 0) : ∃ τ, fX5_laysWays σ = some τ ∧ ps_fr (fun q => q = 54) σ τ ∧ (∀ T k, T < 2 ^ g_n a → k < 9 → τ.1 54 (9 * T + k) = Int32.ofInt (w_W (fun p => (g_ms a 1 p : Int)) k T)) := by
  have h8 := hw.1
  have h3 := p2_pos (g_n a)
  have h2 := p2_le _ h8
  obtain ⟨τ, t1, t2, t3⟩ := ps_for (step := fun q => fX5_laysWays_S2 q.1 q.2) (2 ^ g_n a) (fun i q => q.1 = nI i ∧ ps_fr (fun q => q = 54) σ q.2 ∧ ∀ T k, T < i → k < 9 → q.2.1 54 (9 * T + k) = Int32.ofInt (w_W (fun p => (g_ms a 1 p : Int)) k T)) (fun τ => ps_fr (fun q => q = 54) σ τ ∧ ∀ T k, T < 2 ^ g_n a → k < 9 → τ.1 54 (9 * T + k) = Int32.ofInt (w_W (fun p => (g_ms a 1 p : Int)) k T)) (F := 100000) (s := ((0 : Int32), σ)) (by
    rintro i ⟨c, τ⟩ hi ⟨e, hf, hv⟩
    simp only at e hf hv
    subst e
    have hG := h.fr hf (by decide)
    obtain ⟨χ, x1, x2, x3, x4⟩ := m_Waysa (σ := τ) (s := i) (by omega)
    have hGχ := hG.fr x2 (by decide)
    by_cases c : i = 0
    · refine ⟨(nI (i + 1), χ), ?_, rfl, hf.tr x2, fun T k hT hk => ?_⟩
      · show fX5_laysWays_S2 (nI i) τ = _
        unfold fX5_laysWays_S2
        have hl : ps_lp (fun q => fX5_laysWays_S50 (nI i) q.1 q.2) 100000 (nI i, χ) = some χ := by
          have : fX5_laysWays_S50 (nI i) (nI i) χ = some (.inr χ) := by
            unfold fX5_laysWays_S50
            rw [c, if_pos (by decide)]
          exact lp_out this
        rw [m_all hG hw, Option.bind_some, if_neg (nI_nlt (by omega) (by omega)), n0, x1, Option.bind_some, hl, Option.bind_some]
        simp only [ps_let]
        rw [nI_1]
      · have : T = i := by omega
        subst this
        show χ.1 54 (9 * T + k) = _
        rw [x3 k hk, c, w_0]
        by_cases d : k = 0
        · rw [if_pos ⟨rfl, d⟩, if_pos d]; rfl
        · rw [if_neg (fun q => d q.2), if_neg d]; rfl
    · obtain ⟨υ, u1, u2, u3⟩ := m_Waysc (σ := χ) (s := i) hGχ hw (by omega) c (fun T k hT hk => by rw [x4 _ (by omega)]; exact hv T k hT hk) (fun k hk => by rw [x3 k hk, if_neg (fun q => c q.1)])
      refine ⟨(nI (i + 1), υ), ?_, rfl, (hf.tr x2).tr u2, fun T k hT hk => u3 T k (by omega) hk⟩
      show fX5_laysWays_S2 (nI i) τ = _
      unfold fX5_laysWays_S2
      rw [m_all hG hw, Option.bind_some, if_neg (nI_nlt (by omega) (by omega)), n0, x1, Option.bind_some, u1, Option.bind_some]
      simp only [ps_let]
      rw [nI_1]) (by
    rintro ⟨c, τ⟩ ⟨e, hf, hv⟩
    simp only at e hf hv
    subst e
    have hG := h.fr hf (by decide)
    refine ⟨τ, ?_, hf, hv⟩
    show fX5_laysWays_S2 (nI (2 ^ g_n a)) τ = _
    unfold fX5_laysWays_S2
    rw [m_all hG hw, Option.bind_some, if_pos (nI_lt (by omega) (by omega))]) ⟨rfl, ps_fr.rf, fun T k hT _ => absurd hT (Nat.not_lt_zero _)⟩ (by omega)
  refine ⟨τ, ?_, t2, t3⟩
  unfold fX5_laysWays
  rw [t1, Option.bind_some]
theorem m_Plaina {σ : ps_S} {s : Nat} (hs : s < 256) : ∃ τ, ps_lp (fun q => fX5_laysPlain_S12 (nI s) q.1 q.2) 100000 (nI 0, σ) = some τ ∧ ps_fr (fun q => q = 56) σ τ ∧ (∀ k, k < 9 → τ.1 56 (9 * s + k) = nI (if s = 0 ∧ k = 0 then 1 else 0)) ∧ ∀ x, x < 9 * s ∨ 9 * s + 9 ≤ x → τ.1 56 x = σ.1 56 x := by
  refine ps_for (step := fun q => fX5_laysPlain_S12 (nI s) q.1 q.2) 9 (fun i q => q.1 = nI i ∧ ps_fr (fun q => q = 56) σ q.2 ∧ (∀ k, k < i → q.2.1 56 (9 * s + k) = nI (if s = 0 ∧ k = 0 then 1 else 0)) ∧ ∀ x, x < 9 * s ∨ 9 * s + 9 ≤ x → q.2.1 56 x = σ.1 56 x) (fun τ => ps_fr (fun q => q = 56) σ τ ∧ (∀ k, k < 9 → τ.1 56 (9 * s + k) = nI (if s = 0 ∧ k = 0 then 1 else 0)) ∧ ∀ x, x < 9 * s ∨ 9 * s + 9 ≤ x → τ.1 56 x = σ.1 56 x) ?_ ?_ ⟨rfl, ps_fr.rf, fun k hk => absurd hk (Nat.not_lt_zero _), fun _ _ => rfl⟩ (by decide)
  · rintro i ⟨c, τ⟩ hi ⟨e, hf, hv, ho⟩
    simp only at e hf hv ho
    subst e
    refine ⟨(nI (i + 1), ps_ui τ 56 (9 * s + i) (nI (if s = 0 ∧ i = 0 then 1 else 0))), ?_, rfl, hf.tr (ps_fr_ui rfl), fun k hk => ?_, fun x hx => ?_⟩
    · show fX5_laysPlain_S12 (nI s) (nI i) τ = _
      unfold fX5_laysPlain_S12 fX5_laysPlain_J40 fX5_laysPlain_J41
      simp only [ps_let]
      rw [nl_8, if_neg (nI_nlt (by omega) (by decide)), nl_9, fa_mul, nI_add, pk_ok (by omega) (by decide), pk_ok (by omega) (by decide), nI_clamp (by omega), nI_1]
      by_cases c : s = 0
      · rw [if_pos ((nI0_iff (by omega)).mpr c)]
        by_cases d : i = 0
        · rw [if_pos ((nI0_iff (by omega)).mpr d), if_pos ⟨c, d⟩]; rfl
        · rw [if_neg (fun q => d ((nI0_iff (by omega)).mp q)), if_neg (fun q => d q.2)]; rfl
      · rw [if_neg (fun q => c ((nI0_iff (by omega)).mp q)), if_neg (fun q => c q.1)]; rfl
    · show (ps_ui τ 56 (9 * s + i) _).1 56 (9 * s + k) = _
      rw [pu_i]
      by_cases c : k = i
      · rw [if_pos ⟨rfl, by omega⟩, c]
      · rw [if_neg (fun q => by omega)]
        exact hv k (by omega)
    · show (ps_ui τ 56 (9 * s + i) _).1 56 x = _
      rw [pu_i, if_neg (fun q => by omega)]
      exact ho x hx
  · rintro ⟨c, τ⟩ ⟨e, hf, hv, ho⟩
    simp only at e hf hv ho
    subst e
    refine ⟨τ, ?_, hf, hv, ho⟩
    show fX5_laysPlain_S12 (nI s) (nI 9) τ = _
    unfold fX5_laysPlain_S12
    rw [if_pos (by decide)]
theorem m_Plainb {σ : ps_S} {s p : Nat} (hs : s < 256) (hsub : g_sub p s) (hp : 0 < p) : ∃ τ, ps_lp (fun q => fX5_laysPlain_S76 (nI s) (nI p) q.1 q.2) 100000 (nI 1, σ) = some τ ∧ ps_fr (fun q => q = 56) σ τ ∧ (∀ k, k < 9 → τ.1 56 (9 * s + k) = if k = 0 then σ.1 56 (9 * s) else σ.1 56 (9 * s + k) + σ.1 56 (9 * (s ^^^ p) + (k - 1))) ∧ ∀ x, x < 9 * s ∨ 9 * s + 9 ≤ x → τ.1 56 x = σ.1 56 x := by
  have hlt : s ^^^ p < s := by
    have h3 := sub_le (sub_rest hsub)
    have h4 : s ^^^ p ≠ s := fun q => by
      have := congrArg (fun y => s ^^^ y) q
      simp [← Nat.xor_assoc] at this
      omega
    omega
  refine ps_for (step := fun q => fX5_laysPlain_S76 (nI s) (nI p) q.1 q.2) 8 (fun i q => q.1 = nI (i + 1) ∧ ps_fr (fun q => q = 56) σ q.2 ∧ (∀ k, k < 9 → q.2.1 56 (9 * s + k) = if k = 0 ∨ i < k then σ.1 56 (9 * s + k) else σ.1 56 (9 * s + k) + σ.1 56 (9 * (s ^^^ p) + (k - 1))) ∧ ∀ x, x < 9 * s ∨ 9 * s + 9 ≤ x → q.2.1 56 x = σ.1 56 x) (fun τ => ps_fr (fun q => q = 56) σ τ ∧ (∀ k, k < 9 → τ.1 56 (9 * s + k) = if k = 0 then σ.1 56 (9 * s) else σ.1 56 (9 * s + k) + σ.1 56 (9 * (s ^^^ p) + (k - 1))) ∧ ∀ x, x < 9 * s ∨ 9 * s + 9 ≤ x → τ.1 56 x = σ.1 56 x) ?_ ?_ ⟨rfl, ps_fr.rf, fun k hk => by rw [if_pos (by omega)], fun _ _ => rfl⟩ (by decide)
  · rintro i ⟨c, τ⟩ hi ⟨e, hf, hv, ho⟩
    simp only at e hf hv ho
    subst e
    refine ⟨(nI (i + 1 + 1), ps_ui τ 56 (9 * s + (i + 1)) (σ.1 56 (9 * s + (i + 1)) + σ.1 56 (9 * (s ^^^ p) + (i + 1 - 1)))), ?_, rfl, hf.tr (ps_fr_ui rfl), fun k hk => ?_, fun x hx => ?_⟩
    · show fX5_laysPlain_S76 (nI s) (nI p) (nI (i + 1)) τ = _
      unfold fX5_laysPlain_S76
      simp only [ps_let]
      rw [nl_8, if_neg (nI_nlt (by omega) (by decide)), df_int, df_xor hsub, nl_9, fa_mul, fa_mul, nI_add, nI_add, n1, pk_sub (by omega), pk_ok (by omega) (by decide), pk_ok (by omega) (by decide), pk_ok (by omega) (by decide), nI_clamp (by omega), nI_clamp (by omega), hv (i + 1) (by omega), if_pos (by omega), ho _ (by omega), ← n1, nI_1, show 9 * (s ^^^ p) + (i + 1) - 1 = 9 * (s ^^^ p) + (i + 1 - 1) by omega]
    · show (ps_ui τ 56 (9 * s + (i + 1)) _).1 56 (9 * s + k) = _
      rw [pu_i]
      by_cases c : k = i + 1
      · subst c
        rw [if_pos ⟨rfl, rfl⟩, if_neg (by omega)]
      · rw [if_neg (fun q => by omega), hv k hk]
        by_cases d : k = 0 ∨ i < k
        · rw [if_pos d, if_pos (by omega)]
        · rw [if_neg d, if_neg (by omega)]
    · show (ps_ui τ 56 (9 * s + (i + 1)) _).1 56 x = _
      rw [pu_i, if_neg (fun q => by omega)]
      exact ho x hx
  · rintro ⟨c, τ⟩ ⟨e, hf, hv, ho⟩
    simp only at e hf hv ho
    subst e
    refine ⟨τ, ?_, hf, fun k hk => ?_, ho⟩
    · show fX5_laysPlain_S76 (nI s) (nI p) (nI (8 + 1)) τ = _
      unfold fX5_laysPlain_S76
      rw [if_pos (by decide)]
    · rw [hv k hk]
      by_cases d : k = 0
      · subst d; rw [if_pos (Or.inl rfl), if_pos rfl]; rfl
      · rw [if_neg (by omega), if_neg d]
theorem m_Plainc {σ : ps_S} {a : gG} {s : Nat} (h : m_G σ 47 0 a) (hw : g_wf a) (hs : s < 2 ^ g_n a) (h0 : s ≠ 0) (hW : ∀ T k, T < s → k < 9 → σ.1 56 (9 * T + k) = Int32.ofInt (w_W (fun p => (g_ms a 2 p : Int)) k T)) (hz : ∀ k, k < 9 → σ.1 56 (9 * s + k) = nI 0) : ∃ τ, ps_lp (fun q => fX5_laysPlain_S50 (nI s) q.1 q.2) 100000 (nI s, σ) = some τ ∧ ps_fr (fun q => q = 56) σ τ ∧ (∀ T k, T ≤ s → k < 9 → τ.1 56 (9 * T + k) = Int32.ofInt (w_W (fun p => (g_ms a 2 p : Int)) k T)) := by
  have h8 := hw.1
  have h2 := p2_le _ h8
  let g : Nat → Nat → Int := fun k p => if p.testBit (g_lt s) = true then (g_ms a 2 p : Int) * w_W (fun p => (g_ms a 2 p : Int)) (k - 1) (s ^^^ p) else 0
  have key : ∃ τ, ps_lp (fun q => fX5_laysPlain_S50 (nI s) q.1 q.2) 100000 (nI s, σ) = some τ ∧ ps_fr (fun q => q = 56) σ τ ∧ (∀ k, k < 9 → τ.1 56 (9 * s + k) = Int32.ofInt (if k = 0 then 0 else u_d s (g k) 0)) ∧ ∀ x, x < 9 * s ∨ 9 * s + 9 ≤ x → τ.1 56 x = σ.1 56 x := by
    refine ps_subs (step := fun q => fX5_laysPlain_S50 (nI s) q.1 q.2) s (fun p q => q.1 = nI p ∧ ps_fr (fun q => q = 56) σ q.2 ∧ (∀ k, k < 9 → q.2.1 56 (9 * s + k) = Int32.ofInt (if k = 0 then 0 else u_d s (g k) p)) ∧ ∀ x, x < 9 * s ∨ 9 * s + 9 ≤ x → q.2.1 56 x = σ.1 56 x) (fun τ => ps_fr (fun q => q = 56) σ τ ∧ (∀ k, k < 9 → τ.1 56 (9 * s + k) = Int32.ofInt (if k = 0 then 0 else u_d s (g k) 0)) ∧ ∀ x, x < 9 * s ∨ 9 * s + 9 ≤ x → τ.1 56 x = σ.1 56 x) ?_ ?_ ⟨rfl, ps_fr.rf, fun k hk => by
        rw [hz k hk]
        by_cases c : k = 0
        · rw [if_pos c]; rfl
        · rw [if_neg c, u_d_top]; rfl, fun _ _ => rfl⟩ (by omega)
    · rintro p ⟨c, τ⟩ hp hsub ⟨e, hf, hv, ho⟩
      simp only at e hf hv ho
      subst e
      have hps := sub_le hsub
      have hG := h.fr hf (by decide)
      have hlow := low_test (S := s) (p := p) (by omega) h0
      have skip : (∀ k, g k p = 0) → ∀ k, k < 9 → τ.1 56 (9 * s + k) = Int32.ofInt (if k = 0 then 0 else u_d s (g k) ((p - 1) &&& s)) := fun hg k hk => by
        rw [hv k hk, u_d_step _ hsub hp, hg k, Int.add_zero]
      cases hb : p.testBit (g_lt s)
      · refine ⟨(nI ((p - 1) &&& s), τ), ?_, rfl, hf, skip (fun k => if_neg (by rw [hb]; decide)), ho⟩
        show fX5_laysPlain_S50 (nI s) (nI p) τ = _
        unfold fX5_laysPlain_S50 fX5_laysPlain_J119
        rw [if_neg (nI_nle hp (by omega)), if_pos (hlow.mpr hb), n1, pk_sub (by omega), fa_and]
        rfl
      · have hnl : ¬ ((nI p &&& nI s) &&& (-nI s)) = 0 := fun q => by rw [hlow.mp q] at hb; exact absurd hb (by decide)
        by_cases t0 : g_pi a p = 0
        · obtain ⟨υ, u1, u2, u3, u4⟩ := m_Plainb (σ := τ) (s := s) (p := p) (by omega) hsub hp
          refine ⟨(nI ((p - 1) &&& s), υ), ?_, rfl, hf.tr u2, fun k hk => ?_, fun x hx => by rw [u4 x hx]; exact ho x hx⟩
          · show fX5_laysPlain_S50 (nI s) (nI p) τ = _
            unfold fX5_laysPlain_S50 fX5_laysPlain_J119
            rw [if_neg (nI_nle hp (by omega)), if_neg hnl, m_pairsIn hG hw (by omega), Option.bind_some, show nI (g_p2 a p / 2) = nI 0 from congrArg nI t0, if_pos (by decide), n1, u1, Option.bind_some, pk_sub (by omega), fa_and]
            rfl
          · show υ.1 56 (9 * s + k) = _
            rw [u3 k hk]
            by_cases c : k = 0
            · subst c
              rw [if_pos rfl, if_pos rfl]
              have := hv 0 (by decide)
              rw [if_pos rfl] at this
              exact this
            · have hxl : s ^^^ p < s := by
                have h3 := sub_le (sub_rest hsub)
                have h4 : s ^^^ p ≠ s := fun q => by
                  have := congrArg (fun y => s ^^^ y) q
                  simp [← Nat.xor_assoc] at this
                  omega
                omega
              have hgp : g k p = w_W (fun p => (g_ms a 2 p : Int)) (k - 1) (s ^^^ p) := by
                show (if p.testBit (g_lt s) = true then (g_ms a 2 p : Int) * w_W (fun p => (g_ms a 2 p : Int)) (k - 1) (s ^^^ p) else 0) = _
                rw [if_pos hb, show g_ms a 2 p = 1 from if_pos t0, show ((1 : Nat) : Int) = 1 from rfl, Int.one_mul]
              rw [if_neg c, if_neg c, hv k hk, if_neg c, ho _ (by omega), hW (s ^^^ p) (k - 1) hxl (by omega), u_d_step _ hsub hp, Int32.ofInt_add, hgp]
        · refine ⟨(nI ((p - 1) &&& s), τ), ?_, rfl, hf, skip (fun k => by
            show (if p.testBit (g_lt s) = true then (g_ms a 2 p : Int) * w_W (fun p => (g_ms a 2 p : Int)) (k - 1) (s ^^^ p) else 0) = _
            rw [if_pos hb, show g_ms a 2 p = 0 from if_neg t0, show ((0 : Nat) : Int) = 0 from rfl, Int.zero_mul]), ho⟩
          show fX5_laysPlain_S50 (nI s) (nI p) τ = _
          unfold fX5_laysPlain_S50 fX5_laysPlain_J119
          rw [if_neg (nI_nle hp (by omega)), if_neg hnl, m_pairsIn hG hw (by omega), Option.bind_some, if_neg (nI_nle (show 0 < g_p2 a p / 2 from Nat.pos_of_ne_zero t0) (by have := pi_28 hw (s := p) (by omega); unfold g_pi at this; omega)), n1, pk_sub (by omega), fa_and]
          rfl
    · rintro ⟨c, τ⟩ ⟨e, hf, hv, ho⟩
      simp only at e hf hv ho
      subst e
      refine ⟨τ, ?_, hf, hv, ho⟩
      show fX5_laysPlain_S50 (nI s) (nI 0) τ = _
      unfold fX5_laysPlain_S50
      rw [if_pos (by decide)]
  obtain ⟨τ, t1, t2, t3, t4⟩ := key
  refine ⟨τ, t1, t2, fun T k hT hk => ?_⟩
  by_cases c : T = s
  · subst c
    rw [t3 k hk, w_S _ k (by omega) h0]
    by_cases d : k = 0
    · rw [if_pos d, if_pos d]
    · rw [if_neg d, if_neg d, u_d_0]
      have : g k 0 = 0 := if_neg (by rw [Nat.zero_testBit]; decide)
      show _ = Int32.ofInt (u_d T (g k) 0 + g k 0)
      rw [this, Int.add_zero]
  · rw [t4 _ (by omega)]
    exact hW T k (by omega) hk
theorem m_laysPlain {σ : ps_S} {a : gG} (h : m_G σ 47 0 a) (hw : g_wf a) (hn : g_n a ≠ 0) : ∃ τ, fX5_laysPlain σ = some τ ∧ ps_fr (fun q => q = 56) σ τ ∧ (∀ T k, T < 2 ^ g_n a → k < 9 → τ.1 56 (9 * T + k) = Int32.ofInt (w_W (fun p => (g_ms a 2 p : Int)) k T)) := by
  have h8 := hw.1
  have h3 := p2_pos (g_n a)
  have h2 := p2_le _ h8
  obtain ⟨τ, t1, t2, t3⟩ := ps_for (step := fun q => fX5_laysPlain_S2 q.1 q.2) (2 ^ g_n a) (fun i q => q.1 = nI i ∧ ps_fr (fun q => q = 56) σ q.2 ∧ ∀ T k, T < i → k < 9 → q.2.1 56 (9 * T + k) = Int32.ofInt (w_W (fun p => (g_ms a 2 p : Int)) k T)) (fun τ => ps_fr (fun q => q = 56) σ τ ∧ ∀ T k, T < 2 ^ g_n a → k < 9 → τ.1 56 (9 * T + k) = Int32.ofInt (w_W (fun p => (g_ms a 2 p : Int)) k T)) (F := 100000) (s := ((0 : Int32), σ)) (by
    rintro i ⟨c, τ⟩ hi ⟨e, hf, hv⟩
    simp only at e hf hv
    subst e
    have hG := h.fr hf (by decide)
    obtain ⟨χ, x1, x2, x3, x4⟩ := m_Plaina (σ := τ) (s := i) (by omega)
    have hGχ := hG.fr x2 (by decide)
    by_cases c : i = 0
    · refine ⟨(nI (i + 1), χ), ?_, rfl, hf.tr x2, fun T k hT hk => ?_⟩
      · show fX5_laysPlain_S2 (nI i) τ = _
        unfold fX5_laysPlain_S2
        have hl : ps_lp (fun q => fX5_laysPlain_S50 (nI i) q.1 q.2) 100000 (nI i, χ) = some χ := by
          have : fX5_laysPlain_S50 (nI i) (nI i) χ = some (.inr χ) := by
            unfold fX5_laysPlain_S50
            rw [c, if_pos (by decide)]
          exact lp_out this
        rw [m_all hG hw, Option.bind_some, if_neg (nI_nlt (by omega) (by omega)), n0, x1, Option.bind_some, hl, Option.bind_some]
        simp only [ps_let]
        rw [nI_1]
      · have : T = i := by omega
        subst this
        show χ.1 56 (9 * T + k) = _
        rw [x3 k hk, c, w_0]
        by_cases d : k = 0
        · rw [if_pos ⟨rfl, d⟩, if_pos d]; rfl
        · rw [if_neg (fun q => d q.2), if_neg d]; rfl
    · obtain ⟨υ, u1, u2, u3⟩ := m_Plainc (σ := χ) (s := i) hGχ hw (by omega) c (fun T k hT hk => by rw [x4 _ (by omega)]; exact hv T k hT hk) (fun k hk => by rw [x3 k hk, if_neg (fun q => c q.1)])
      refine ⟨(nI (i + 1), υ), ?_, rfl, (hf.tr x2).tr u2, fun T k hT hk => u3 T k (by omega) hk⟩
      show fX5_laysPlain_S2 (nI i) τ = _
      unfold fX5_laysPlain_S2
      rw [m_all hG hw, Option.bind_some, if_neg (nI_nlt (by omega) (by omega)), n0, x1, Option.bind_some, u1, Option.bind_some]
      simp only [ps_let]
      rw [nI_1]) (by
    rintro ⟨c, τ⟩ ⟨e, hf, hv⟩
    simp only at e hf hv
    subst e
    have hG := h.fr hf (by decide)
    refine ⟨τ, ?_, hf, hv⟩
    show fX5_laysPlain_S2 (nI (2 ^ g_n a)) τ = _
    unfold fX5_laysPlain_S2
    rw [m_all hG hw, Option.bind_some, if_pos (nI_lt (by omega) (by omega))]) ⟨rfl, ps_fr.rf, fun T k hT _ => absurd hT (Nat.not_lt_zero _)⟩ (by omega)
  refine ⟨τ, ?_, t2, t3⟩
  unfold fX5_laysPlain
  rw [t1, Option.bind_some]
