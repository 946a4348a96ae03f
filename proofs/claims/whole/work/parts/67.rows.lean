/-! a row becomes what was reckoned, on both sides -/
def g_row (a : gG) (r : Nat) (F : Nat → Nat) : gG := (g_n a, g_w a, g_j a, fun r' s => if r' = r ∧ s < g_N a then F s else g_f a r' s)
theorem g_row_wf {a : gG} {r : Nat} {F : Nat → Nat} (h : g_wf a) (hF : ∀ s, s < g_N a → F s < g_P) : g_wf (g_row a r F) := by
  obtain ⟨w1, w2, w3, w4, w5, w6, w7, w8, w9⟩ := h
  refine ⟨w1, w2, w3, w4, w5, w6, w7, fun r' s => ?_, fun r' s h' => ?_⟩
  · show (if r' = r ∧ s < g_N a then F s else g_f a r' s) < g_P
    split
    · rename_i q; exact hF s q.2
    · exact w8 r' s
  · show (if r' = r ∧ s < g_N a then F s else g_f a r' s) = 0
    rw [if_neg (fun q => N_lt q.2 h')]
    exact w9 r' s h'
theorem g_chg_row {a : gG} {r : Nat} {F : Nat → Nat} : g_chg r a (g_row a r F) := ⟨rfl, fun _ _ _ => rfl, fun r' s _ _ hne => by
  show (if r' = r ∧ s < g_N a then F s else g_f a r' s) = _
  rw [if_neg (fun q => hne q.1)]⟩
theorem c_settle {σ : ps_S} {A : gA} {r : Nat} {F : Nat → Nat} (hw : a_wf A) (hc : c_R σ A) (hr : r < 4) (hn : g_n (a_g A) ≠ 0) (hF : ∀ s, s < g_N (a_g A) → σ.1 42 s = nI (F s)) : ∃ τ, fX4_settle 42 (nI r) σ = some (nI (F (g_all (a_g A))), τ) ∧ c_R τ (A_push A (g_row (a_g A) r F)) ∧ ps_fr c_own σ τ := by
  have h8 := hw.1.1
  have h2 := p2_le _ h8
  have h3 := p2_pos (g_n (a_g A))
  have hN := g_N_pos hn
  obtain ⟨τ, t1, t2, t3⟩ := c_keepLine hw hc (l0 := r) (by omega)
  have hG := c_G_acts hc.1 t2
  have e42 : τ.1 42 = σ.1 42 := (t2 42 (fun q => by unfold acts_own at q; omega)).1
  unfold fX4_settle
  simp only [ps_let]
  rw [t1, Option.bind_some, pk_ok (by omega) (by decide), c_countSets hG hw.1, Option.bind_some, show ps_ln 42 = 256 from rfl, pc_ok ⟨by decide, by decide, nI_pos (by omega), by rw [nI_clamp (by omega)]; show 0 + _ ≤ _; omega, by rw [nI_clamp (by omega)]; show 0 + _ ≤ _; omega⟩, nI_clamp (by omega), nI_clamp (by omega), show Int32.toNatClampNeg 0 = 0 from rfl, e42]
  generalize hf : va_cpy (σ.1 42) (τ.1 (2 + 1 + r)) 0 0 (g_N (a_g A)) = f
  have hfs : ∀ s, f s = if s < g_N (a_g A) then nI (F s) else τ.1 (2 + 1 + r) s := fun s => by
    rw [← hf]
    by_cases c : s < g_N (a_g A)
    · rw [if_pos c, sb_cpy0 c, hF s c]
    · rw [if_neg c, pk_cpy_out (Or.inr (by omega))]
  rw [pk_ok (by omega) (by decide)]
  have eA : fX1_allThings (ps_ur τ (2 + 1 + r) f) = some (nI (g_all (a_g A))) := by
    unfold fX1_allThings
    rw [pu_r, if_neg (by omega), hG.1, sh1 _ h8, n1, pk_sub h3]; rfl
  have hall : g_all (a_g A) < g_N (a_g A) := by unfold g_all; omega
  rw [eA, Option.bind_some, pk_ok (by omega) (by decide), nI_clamp (by omega)]
  have f2 : ps_fr (fun k => k = 2 + 1 + r) τ (ps_ur τ (2 + 1 + r) f) := ps_fr_ur rfl
  refine ⟨_, by rw [pu_r, if_pos rfl, hfs, if_pos hall], c_R_push hc t2 (t3 _ g_chg_row) f2 (fun k _ _ q => by omega) ?_, (acts_c t2).tr (f2.wk (fun k q => by unfold c_own; omega))⟩
  obtain ⟨h1, h2', h3', h4⟩ := hG
  refine ⟨by rw [pu_r, if_neg (by omega)]; exact h1, h2', fun s hs => by rw [pu_r, if_neg (by omega)]; exact h3' s hs, fun r' s hr' hs => ?_⟩
  rw [pu_r]
  show _ = nI (if r' = r ∧ s < g_N (a_g A) then F s else g_f (a_g A) r' s)
  by_cases e : r' = r
  · subst e
    rw [if_pos (by omega), hfs]
    by_cases c : s < g_N (a_g A)
    · rw [if_pos c, if_pos ⟨rfl, c⟩]
    · rw [if_neg c, if_neg (fun q => c q.2), show 2 + 1 + r' = 1 + 2 + r' by omega]; exact h4 r' s hr' hs
  · rw [if_neg (by omega), if_neg (fun q => e q.1)]; exact h4 r' s hr' hs
theorem m_becomes {σ : ps_S} {A : gA} {r q : Nat} {F : Nat → Nat} (hw : a_wf A) (hm : m_R σ A) (hr : r < 4) (hn : g_n (a_g A) ≠ 0) (hq : q < g_N (a_g A)) (hF : ∀ s, s < g_N (a_g A) → σ.1 52 s = nI (F s)) : ∃ τ, fX5_becomes (nI r) (nI q) σ = some (nI (F q), τ) ∧ m_R τ (A_push A (g_row (a_g A) r F)) ∧ ps_fr m_own σ τ := by
  have h8 := hw.1.1
  have h2 := p2_le _ h8
  have h3 := p2_pos (g_n (a_g A))
  have hN := g_N_pos hn
  obtain ⟨ω, s1, s2, s3, s4, s5⟩ := m_snap hw hm
  have hmω := hm.1.fr s2 (by decide)
  have e52 : ω.1 52 = σ.1 52 := (s2 52 (by decide)).1
  unfold fX5_becomes
  rw [s1, Option.bind_some]
  obtain ⟨x, hx, r1, r2, r3⟩ := ps_for (step := fun s => fX5_becomes_S6 (nI r) (nI q) s.1 s.2) (2 ^ g_n (a_g A))
    (fun i s => s.1 = nI i ∧ ps_fr (fun k => k = 47) ω s.2 ∧ (∀ x, x < 256 → s.2.1 47 (265 + 256 * r + x) = if x < i then nI (F x) else ω.1 47 (265 + 256 * r + x)) ∧ ∀ j, j < 265 + 256 * r ∨ 265 + 256 * r + 256 ≤ j → s.2.1 47 j = ω.1 47 j)
    (fun s => ps_fr (fun k => k = 47) ω s ∧ (∀ x, x < 256 → s.1 47 (265 + 256 * r + x) = if x < 2 ^ g_n (a_g A) then nI (F x) else ω.1 47 (265 + 256 * r + x)) ∧ ∀ j, j < 265 + 256 * r ∨ 265 + 256 * r + 256 ≤ j → s.1 47 j = ω.1 47 j)
    (F := 100000) (s := ((0 : Int32), ω)) (by
      intro i s hi ⟨e, hf, hv, ho⟩
      obtain ⟨a3, τ⟩ := s
      simp only at e hf hv ho
      subst e
      have e0 : τ.1 47 0 = nI (g_n (a_g A)) := by rw [ho 0 (by omega)]; exact hmω.1
      have eall : fX5_all τ = some (nI (2 ^ g_n (a_g A) - 1)) := by
        unfold fX5_all
        rw [m_G_th e0, Option.bind_some, sh1 _ h8, n1, pk_sub h3]
      refine ⟨(nI (i + 1), ps_ui τ 47 (265 + 256 * r + i) (nI (F i))), ?_, rfl, hf.tr (ps_fr_ui rfl), fun x hx => ?_, fun j hj => ?_⟩
      · unfold fX5_becomes_S6
        simp only [ps_let]
        rw [eall, Option.bind_some, if_neg (nI_nlt (by omega) (by omega)), pk_ok (by omega) (by decide), nl_265, nl_256, pk_mul, nI_add, nI_add, pk_ok (by omega) (by decide), nI_clamp (by omega), nI_clamp (by omega), nI_1, (hf 52 (by decide)).1, e52, hF i (by omega)]
      · show (ps_ui _ 47 _ _).1 47 _ = _
        rw [pu_i]
        by_cases e : x = i
        · rw [if_pos (by omega), if_pos (by omega), e]
        · rw [if_neg (by omega), hv x hx]
          by_cases c : x < i
          · rw [if_pos c, if_pos (by omega)]
          · rw [if_neg c, if_neg (by omega)]
      · show (ps_ui _ 47 _ _).1 47 j = _
        rw [pu_i, if_neg (by omega)]; exact ho j hj) (by
      intro s ⟨e, hf, hv, ho⟩
      obtain ⟨a3, τ⟩ := s
      simp only at e hf hv ho
      subst e
      have e0 : τ.1 47 0 = nI (g_n (a_g A)) := by rw [ho 0 (by omega)]; exact hmω.1
      have eall : fX5_all τ = some (nI (2 ^ g_n (a_g A) - 1)) := by
        unfold fX5_all
        rw [m_G_th e0, Option.bind_some, sh1 _ h8, n1, pk_sub h3]
      exact ⟨τ, by unfold fX5_becomes_S6; rw [eall, Option.bind_some, if_pos (nI_lt (by omega) (by omega))], hf, hv, ho⟩) ⟨rfl, ps_fr.rf, fun x _ => by rw [if_neg (by omega)], fun _ _ => rfl⟩ (by omega)
  rw [hx, Option.bind_some, pk_ok (by omega) (by decide), nI_clamp (by omega), (r1 52 (by decide)).1, e52, hF q hq]
  refine ⟨x, rfl, m_R_push hm s2 s3 s4 s5 r1 (fun k _ _ h => h) ?_, (snap_m s2).tr (r1.wk (fun k q => by unfold m_own; omega))⟩
  obtain ⟨y1, y2, y3, y4⟩ := hmω
  refine ⟨by rw [r3 0 (by omega)]; exact y1, fun s hs => by rw [r3 _ (by omega)]; exact y2 s hs, fun t ht => by rw [r3 _ (by omega)]; exact y3 t ht, fun r' s hr' hs => ?_⟩
  show _ = nI (if r' = r ∧ s < g_N (a_g A) then F s else g_f (a_g A) r' s)
  rw [Nat.zero_add]
  have y5 := y4 r' s hr' hs
  rw [Nat.zero_add] at y5
  by_cases e : r' = r
  · subst e
    rw [r2 s hs, hN]
    by_cases c : s < 2 ^ g_n (a_g A)
    · rw [if_pos c, if_pos ⟨rfl, c⟩]
    · rw [if_neg c, if_neg (fun q => c q.2)]; exact y5
  · rw [r3 _ (by omega), if_neg (fun q => e q.1)]; exact y5
/-- scratch of the class, of the model -/
def c_scr (k : Nat) : Prop := 39 ≤ k ∧ k < 45
def m_scr (k : Nat) : Prop := 52 ≤ k ∧ k < 59
theorem c_R_scr {σ τ : ps_S} {A : gA} (h : c_R σ A) (hf : ps_fr c_scr σ τ) : c_R τ A := h.fr hf (fun k hk q => by have := q.1; omega)
theorem m_R_scr {σ τ : ps_S} {A : gA} (h : m_R σ A) (hf : ps_fr m_scr σ τ) : m_R τ A := h.fr hf (fun k _ hk q => by have := q.1; omega)
theorem scr_c {σ τ : ps_S} (hf : ps_fr c_scr σ τ) : ps_fr c_own σ τ := hf.wk (fun k q => by have := q.2; unfold c_own; omega)
theorem scr_m {σ τ : ps_S} (hf : ps_fr m_scr σ τ) : ps_fr m_own σ τ := hf.wk (fun k q => by have := q.1; have := q.2; unfold m_own; omega)
/-- a number for each set from 0 on, in the class's row 42: a loop that fills it -/
theorem fill_row {step : Int32 × ps_S → Option ((Int32 × ps_S) ⊕ ps_S)} {σ : ps_S} {N k : Nat} {v : Nat → Int32} (hN : N < 100000)
    (hs : ∀ i τ, i < N → ps_fr (fun q => q = k) σ τ → (∀ x, x < i → τ.1 k x = v x) → (∀ x, i ≤ x → τ.1 k x = σ.1 k x) → step (nI i, τ) = some (.inl (nI (i + 1), ps_ui τ k i (v i))))
    (hx : ∀ τ, ps_fr (fun q => q = k) σ τ → step (nI N, τ) = some (.inr τ)) : ∃ τ, ps_lp step 100000 ((0 : Int32), σ) = some τ ∧ ps_fr (fun q => q = k) σ τ ∧ (∀ x, x < N → τ.1 k x = v x) ∧ ∀ x, N ≤ x → τ.1 k x = σ.1 k x := by
  obtain ⟨x, h1, h2, h3, h4⟩ := ps_for (step := step) N
    (fun i s => s.1 = nI i ∧ ps_fr (fun q => q = k) σ s.2 ∧ (∀ x, x < i → s.2.1 k x = v x) ∧ ∀ x, i ≤ x → s.2.1 k x = σ.1 k x)
    (fun s => ps_fr (fun q => q = k) σ s ∧ (∀ x, x < N → s.1 k x = v x) ∧ ∀ x, N ≤ x → s.1 k x = σ.1 k x)
    (F := 100000) (s := ((0 : Int32), σ)) (by
      intro i s hi ⟨e, hf, hv, ho⟩
      obtain ⟨a, τ⟩ := s
      simp only at e hf hv ho
      subst e
      refine ⟨_, hs i τ hi hf hv ho, rfl, hf.tr (ps_fr_ui rfl), fun x hx => ?_, fun x hx => ?_⟩
      · show (ps_ui τ k i (v i)).1 k x = _
        rw [pu_i]
        by_cases e : x = i
        · rw [if_pos ⟨rfl, e⟩, e]
        · rw [if_neg (fun q => e q.2)]; exact hv x (by omega)
      · show (ps_ui τ k i (v i)).1 k x = _
        rw [pu_i, if_neg (fun q => by omega)]; exact ho x (by omega)) (by
      intro s ⟨e, hf, hv, ho⟩
      obtain ⟨a, τ⟩ := s
      simp only at e hf hv ho
      subst e
      exact ⟨τ, hx τ hf, hf, hv, ho⟩) ⟨rfl, ps_fr.rf, fun x hx => absurd hx (Nat.not_lt_zero _), fun _ _ => rfl⟩ hN
  exact ⟨x, h1, h2, h3, h4⟩
