/-! text: the call -/
theorem isw_all : (fX5_isWord 116 104 105 110 103 115 = fX5_isWord_J20 (nI (w_W0 0)) (nI (w_W0 1)) (nI (w_W0 2)) (nI (w_W0 3)) (nI (w_W0 4)) (nI (w_W0 5)) (nI 6)) ∧ (fX5_isWord 115 101 116 0 0 0 = fX5_isWord_J20 (nI (w_W1 0)) (nI (w_W1 1)) (nI (w_W1 2)) (nI (w_W1 3)) (nI (w_W1 4)) (nI (w_W1 5)) (nI 3)) ∧ (fX5_isWord 112 97 105 114 0 0 = fX5_isWord_J20 (nI (w_W2 0)) (nI (w_W2 1)) (nI (w_W2 2)) (nI (w_W2 3)) (nI (w_W2 4)) (nI (w_W2 5)) (nI 4)) := by
  refine ⟨funext (fun σ => ?_), funext (fun σ => ?_), funext (fun σ => ?_)⟩
  · unfold fX5_isWord
    rw [if_neg (by decide), if_neg (by decide)]; rfl
  · unfold fX5_isWord
    rw [if_pos (by decide)]; rfl
  · unfold fX5_isWord
    rw [if_neg (by decide), if_pos (by decide)]; rfl
theorem W_lt : (∀ i, w_W0 i < 128) ∧ (∀ i, w_W1 i < 128) ∧ (∀ i, w_W2 i < 128) := by
  refine ⟨fun i => ?_, fun i => ?_, fun i => ?_⟩
  · unfold w_W0
    match i with
    | 0 | 1 | 2 | 3 | 4 | 5 => decide
    | n + 6 => exact (by decide : (0 : Nat) < 128)
  · unfold w_W1
    match i with
    | 0 | 1 | 2 => decide
    | n + 3 => exact (by decide : (0 : Nat) < 128)
  · unfold w_W2
    match i with
    | 0 | 1 | 2 | 3 => decide
    | n + 4 => exact (by decide : (0 : Nat) < 128)
def t_line (b : Int32) (t : Nat → Nat) (L p κ s e : Nat) (g : gG) (σ : ps_S) : Prop :=
  (∃ f pl τ, 1 ≤ f ∧ f ≤ 4 ∧ fX2_readLine b σ = some (0, τ) ∧ w_cr σ τ ∧ τ.1 36 2 = nI f ∧ τ.1 36 3 = nI pl ∧ ∀ σm, m_S σm t L g → m_Q σm t κ s e → ∃ υ, (fX5_readLine σm = some (0, υ) ∨ ∃ υ1, fX5_readLine σm = some (1, υ1) ∧ fX5_readEnd υ1 = some (0, υ)) ∧ w_mr σm υ ∧ υ.1 45 8 = nI f ∧ υ.1 45 9 = nI pl) ∨
  (∃ p' g' τ, p + 2 ≤ p' ∧ p' ≤ L ∧ g_wf g' ∧ 0 < g_n g' ∧ g_f g' = g_f g ∧ fX2_readLine b σ = some (1, τ) ∧ w_cr σ τ ∧ τ.1 36 2 = σ.1 36 2 ∧ c_S τ t L g' ∧ τ.1 36 9 = nI p' ∧ ∀ σm, m_S σm t L g → m_Q σm t κ s e → ∀ κ' s' e', w_tk t L p' κ' s' e' → ∃ υ1 υ, fX5_readLine σm = some (1, υ1) ∧ fX5_readEnd υ1 = some (1, υ) ∧ w_mr σm υ ∧ m_S υ t L g' ∧ m_Q υ t κ' s' e')
/-- a body behind its word -/
theorem t_of_body {FC FM : ps_S → Option (Int32 × ps_S)} {b : Int32} {t : Nat → Nat} {L p κ s e : Nat} {g : gG} {σ τ : ps_S} (hpe : p + 1 ≤ e) (hτ : w_cr σ τ) (h2 : τ.1 36 2 = σ.1 36 2) (hC : fX2_readLine b σ = FC τ) (hM : ∀ σm, m_S σm t L g → m_Q σm t κ s e → fX5_readLine σm = FM σm ∧ σm.1 45 4 = nI e) (hB : t_body FC FM t L e g τ) : t_line b t L p κ s e g σ := by
  rcases hB with ⟨f, pl, ρ, a1, a2, a3, a4, a5, a6, a7⟩ | ⟨p', g', ρ, a1, a2, a3, a4, a5, a6, a7, a8, a9, a10, a11⟩
  · refine Or.inl ⟨f, pl, ρ, a1, a2, hC.trans a3, hτ.tr a4, a5, a6, fun σm b1 b2 => ?_⟩
    obtain ⟨c1, c2⟩ := hM σm b1 b2
    obtain ⟨υ, d1, d2⟩ := a7 σm b1 c2
    rw [c1]
    exact ⟨υ, d1, d2⟩
  · refine Or.inr ⟨p', g', ρ, by omega, a2, a3, a4, a5, hC.trans a6, hτ.tr a7, a8.trans h2, a9, a10, fun σm b1 b2 κ' s' e' hk => ?_⟩
    obtain ⟨c1, c2⟩ := hM σm b1 b2
    obtain ⟨υ1, υ, d1⟩ := a11 σm b1 c2 κ' s' e' hk
    rw [c1]
    exact ⟨υ1, υ, d1⟩
theorem t_line_ok {σ : ps_S} {t : Nat → Nat} {L p κ s e : Nat} {g : gG} {b : Int32} (hx : w_tp t L) (hp : p ≤ L) (hg : g_wf g) (hb : (b = 1 ∧ g_n g = 0) ∨ (b = 0 ∧ 0 < g_n g)) (h : c_S σ t L g) (h9 : σ.1 36 9 = nI p) (hk : w_tk t L p κ s e) : (κ = 0 ∧ ∃ τ, fX2_readLine b σ = some (0, τ) ∧ w_cr σ τ ∧ τ.1 36 2 = σ.1 36 2 ∧ c_S τ t L g) ∨ (κ ≠ 0 ∧ t_line b t L p κ s e g σ) := by
  obtain ⟨τ, t1, t2, t3, t4, t5⟩ := c_nx hx hp h h9 hk
  obtain ⟨f1, -, f3, f4, -, -, -, f8⟩ := w_tk_f hp hk
  obtain ⟨iw0, iw1, iw2⟩ := isw_all
  obtain ⟨wl0, wl1, wl2⟩ := W_lt
  have hL := hx.1
  by_cases c : κ = 0
  · left
    refine ⟨c, τ, ?_, t2, t5, t3⟩
    unfold fX2_readLine
    rw [t1, Option.bind_some, t4.1, if_pos ((ck_0 κ (by omega)).mpr (Or.inl c)), t3.1, nl_500, if_neg (nI_nlt (f3 c).1 (by decide))]
  · right
    refine ⟨c, ?_⟩
    have hC : fX2_readLine b σ = fX2_readLine_J23 b τ := by
      unfold fX2_readLine
      rw [t1, Option.bind_some, t4.1, t3.1, nl_500]
      by_cases d : κ = 5
      · rw [if_pos ((ck_0 κ (by omega)).mpr (Or.inr d)), if_pos (nI_lt (f8 d) (by omega))]
      · rw [if_neg (fun z => by have := (ck_0 κ (by omega)).mp z; omega)]
    have hc9 : κ = 1 → τ.1 36 9 = nI e ∧ s < e ∧ e ≤ L := fun q => ⟨t4.2.2 (by omega), (f4 c (by omega)).2⟩
    have fault1 : fX2_readLine b σ = fX2_blame (nI 1) τ → (∀ σm, m_S σm t L g → m_Q σm t κ s e → fX5_readLine σm = fX5_bad (nI 1) σm) → t_line b t L p κ s e g σ := fun h1 h2 => by
      obtain ⟨ρ, r1, r2, r3, r4⟩ := c_bl (σ := τ) (f := 1) t4.2.1
      refine Or.inl ⟨1, s, ρ, by omega, by omega, h1.trans r1, t2.tr r2, r3, r4, fun σm a1 a2 => ?_⟩
      obtain ⟨υ, v1, v2, v3, v4⟩ := m_bd (f := 1) (by omega) a2 (Or.inl rfl)
      exact ⟨υ, Or.inl ((h2 σm a1 a2).trans v1), v2, v3, v4⟩
    have m45 : ∀ σm, m_Q σm t κ s e → κ = 1 → σm.1 45 4 = nI e ∧ s < e ∧ e ≤ L := fun σm a q => ⟨a.2.2.1 (by omega), (f4 c (by omega)).2⟩
    have o0 : ∀ {α : Type} {y : Option α}, ps_ck (0 : Int32) 1289 y = y := fun {_ _} => pk_ok (i := 0) (by decide) (by decide)
    rcases hb with ⟨hb, hn⟩ | ⟨hb, hn⟩
    · subst hb
      obtain ⟨r, r1, r2⟩ := c_isw0 (by omega) hx.1 hx.2 t3.2.1 t4.1 t4.2.1 hc9
      have mw : ∀ σm, m_S σm t L g → m_Q σm t κ s e → ∃ r, fX5_isWord 116 104 105 110 103 115 σm = some r ∧ ((r = 1 ∧ w_isw w_W0 6 t κ s e) ∨ (r = 0 ∧ ¬ w_isw w_W0 6 t κ s e)) := fun σm a1 a2 => by
        rw [iw0]
        exact m_isw (by omega) hx.1 hx.2 wl0 (by omega) a1.2.1 a2.1 a2.2.1 (m45 σm a2)
      have mpre : ∀ σm, m_S σm t L g → fX5_readLine σm = (fX5_isWord 116 104 105 110 103 115 σm).bind fun q10 => (if q10 = 0 then fX5_bad (nI 1) σm else ((fX5_readThings σm).bind fun q13 => ps_cb q13.1 (some (q13.1, q13.2)))) := fun σm a1 => by
        unfold fX5_readLine
        rw [o0, show Int32.toNatClampNeg 0 = 0 from rfl, a1.2.2.1, hn, if_pos (by decide), bd_cb]
        rfl
      rcases r2 with ⟨hr, hW⟩ | ⟨hr, hW⟩
      · have hκ := hW.1
        obtain ⟨k1, k2, k3⟩ := f4 c (by omega)
        have hB := t_thgs hx k3 hg hn t3 (t4.2.2 (by omega))
        have cb : ∀ (F : Option (Int32 × ps_S)) {r τ}, F = some (r, τ) → (r = 0 ∨ r = 1) → (F.bind fun q => ps_cb q.1 (some (q.1, q.2))) = F := fun F r τ h1 h2 => by rw [h1, Option.bind_some]; exact pb_ok h2
        refine t_of_body (FC := fun ρ => (fX2_readThings ρ).bind fun q => ps_cb q.1 (some (q.1, q.2))) (FM := fun ρ => (fX5_readThings ρ).bind fun q => ps_cb q.1 (some (q.1, q.2))) (by omega) t2 t5 ?_ (fun σm a1 a2 => ⟨?_, a2.2.2.1 (by omega)⟩) ?_
        · rw [hC]
          unfold fX2_readLine_J23
          rw [if_neg (by decide), r1, Option.bind_some, hr, if_neg (by decide)]
        · obtain ⟨r', q1, q2⟩ := mw σm a1 a2
          rcases q2 with ⟨q2, -⟩ | ⟨-, q3⟩
          · rw [mpre σm a1, q1, Option.bind_some, q2, if_neg (by decide)]
          · exact absurd hW q3
        · rcases hB with ⟨f, pl, ρ, a1, a2, a3, a4, a5, a6, a7⟩ | ⟨p', g', ρ, a1, a2, a3, a4, a5, a6, a7, a8, a9, a10, a11⟩
          · refine Or.inl ⟨f, pl, ρ, a1, a2, (cb _ a3 (Or.inl rfl)).trans a3, a4, a5, a6, fun σm b1 b2 => ?_⟩
            obtain ⟨υ, d1, d2⟩ := a7 σm b1 b2
            refine ⟨υ, ?_, d2⟩
            rcases d1 with d1 | ⟨υ1, d1, d3⟩
            · exact Or.inl ((cb _ d1 (Or.inl rfl)).trans d1)
            · exact Or.inr ⟨υ1, (cb _ d1 (Or.inr rfl)).trans d1, d3⟩
          · refine Or.inr ⟨p', g', ρ, a1, a2, a3, a4, a5, (cb _ a6 (Or.inr rfl)).trans a6, a7, a8, a9, a10, fun σm b1 b2 κ' s' e' hk' => ?_⟩
            obtain ⟨υ1, υ, d1, d2⟩ := a11 σm b1 b2 κ' s' e' hk'
            exact ⟨υ1, υ, (cb _ d1 (Or.inr rfl)).trans d1, d2⟩
      · refine fault1 ?_ (fun σm a1 a2 => ?_)
        · rw [hC]
          unfold fX2_readLine_J23
          rw [if_neg (by decide), r1, Option.bind_some, hr, if_pos rfl]
          exact bl_cb
        · obtain ⟨r', q1, q2⟩ := mw σm a1 a2
          rcases q2 with ⟨-, q3⟩ | ⟨q2, -⟩
          · exact absurd q3 hW
          · rw [mpre σm a1, q1, Option.bind_some, q2, if_pos rfl]
    · subst hb
      obtain ⟨r, r1, r2⟩ := c_isw1 (by omega) hx.1 hx.2 t3.2.1 t4.1 t4.2.1 hc9
      obtain ⟨w, w1, w2⟩ := c_isw2 (by omega) hx.1 hx.2 t3.2.1 t4.1 t4.2.1 hc9
      have h8 := hg.1
      have mw1 : ∀ σm, m_S σm t L g → m_Q σm t κ s e → ∃ r, fX5_isWord 115 101 116 0 0 0 σm = some r ∧ ((r = 1 ∧ w_isw w_W1 3 t κ s e) ∨ (r = 0 ∧ ¬ w_isw w_W1 3 t κ s e)) := fun σm a1 a2 => by
        rw [iw1]
        exact m_isw (by omega) hx.1 hx.2 wl1 (by omega) a1.2.1 a2.1 a2.2.1 (m45 σm a2)
      have mw2 : ∀ σm, m_S σm t L g → m_Q σm t κ s e → ∃ r, fX5_isWord 112 97 105 114 0 0 σm = some r ∧ ((r = 1 ∧ w_isw w_W2 4 t κ s e) ∨ (r = 0 ∧ ¬ w_isw w_W2 4 t κ s e)) := fun σm a1 a2 => by
        rw [iw2]
        exact m_isw (by omega) hx.1 hx.2 wl2 (by omega) a1.2.1 a2.1 a2.2.1 (m45 σm a2)
      have mpre : ∀ σm, m_S σm t L g → fX5_readLine σm = (fX5_isWord 115 101 116 0 0 0 σm).bind fun q2 => (if q2 = 0 then ((fX5_isWord 112 97 105 114 0 0 σm).bind fun q3 => (if q3 = 0 then fX5_bad (nI 1) σm else ((fX5_readPair σm).bind fun q6 => ps_cb q6.1 (some (q6.1, q6.2))))) else ((fX5_readSet σm).bind fun q8 => ps_cb q8.1 (some (q8.1, q8.2)))) := fun σm a1 => by
        unfold fX5_readLine
        rw [o0, show Int32.toNatClampNeg 0 = 0 from rfl, a1.2.2.1, if_neg (fun z => by have := (nI0_iff (by omega)).mp z; omega), bd_cb]
        rfl
      have cb : ∀ (F : Option (Int32 × ps_S)) {r τ}, F = some (r, τ) → (r = 0 ∨ r = 1) → (F.bind fun q => ps_cb q.1 (some (q.1, q.2))) = F := fun F r τ h1 h2 => by rw [h1, Option.bind_some]; exact pb_ok h2
      have body : ∀ (FC FM : ps_S → Option (Int32 × ps_S)), κ = 1 → t_body FC FM t L e g τ → fX2_readLine 0 σ = ((FC τ).bind fun q => ps_cb q.1 (some (q.1, q.2))) → (∀ σm, m_S σm t L g → m_Q σm t κ s e → fX5_readLine σm = ((FM σm).bind fun q => ps_cb q.1 (some (q.1, q.2)))) → t_line 0 t L p κ s e g σ := fun FC FM hκ hB hc hm => by
        obtain ⟨k1, k2, k3⟩ := f4 c (by omega)
        refine t_of_body (FC := fun ρ => (FC ρ).bind fun q => ps_cb q.1 (some (q.1, q.2))) (FM := fun ρ => (FM ρ).bind fun q => ps_cb q.1 (some (q.1, q.2))) (by omega) t2 t5 hc (fun σm a1 a2 => ⟨hm σm a1 a2, a2.2.2.1 (by omega)⟩) ?_
        rcases hB with ⟨f, pl, ρ, a1, a2, a3, a4, a5, a6, a7⟩ | ⟨p', g', ρ, a1, a2, a3, a4, a5, a6, a7, a8, a9, a10, a11⟩
        · refine Or.inl ⟨f, pl, ρ, a1, a2, (cb _ a3 (Or.inl rfl)).trans a3, a4, a5, a6, fun σm b1 b2 => ?_⟩
          obtain ⟨υ, d1, d2⟩ := a7 σm b1 b2
          refine ⟨υ, ?_, d2⟩
          rcases d1 with d1 | ⟨υ1, d1, d3⟩
          · exact Or.inl ((cb _ d1 (Or.inl rfl)).trans d1)
          · exact Or.inr ⟨υ1, (cb _ d1 (Or.inr rfl)).trans d1, d3⟩
        · refine Or.inr ⟨p', g', ρ, a1, a2, a3, a4, a5, (cb _ a6 (Or.inr rfl)).trans a6, a7, a8, a9, a10, fun σm b1 b2 κ' s' e' hk' => ?_⟩
          obtain ⟨υ1, υ, d1, d2⟩ := a11 σm b1 b2 κ' s' e' hk'
          exact ⟨υ1, υ, (cb _ d1 (Or.inr rfl)).trans d1, d2⟩
      rcases r2 with ⟨hr, hW⟩ | ⟨hr, hW⟩
      · obtain ⟨k1, k2, k3⟩ := f4 c (by have := hW.1; omega)
        refine body fX2_readSet fX5_readSet hW.1 (t_sets hx k3 hg hn t3 (t4.2.2 (by have := hW.1; omega))) ?_ (fun σm a1 a2 => ?_)
        · rw [hC]
          unfold fX2_readLine_J23
          rw [if_pos rfl, r1, Option.bind_some, hr, if_neg (by decide)]
        · obtain ⟨r', q1, q2⟩ := mw1 σm a1 a2
          rcases q2 with ⟨q2, -⟩ | ⟨-, q3⟩
          · rw [mpre σm a1, q1, Option.bind_some, q2, if_neg (by decide)]
          · exact absurd hW q3
      · have mset0 : ∀ σm, m_S σm t L g → m_Q σm t κ s e → fX5_isWord 115 101 116 0 0 0 σm = some 0 := fun σm a1 a2 => by
          obtain ⟨r', q1, q2⟩ := mw1 σm a1 a2
          rcases q2 with ⟨-, q3⟩ | ⟨q2, -⟩
          · exact absurd q3 hW
          · rw [q1, q2]
        rcases w2 with ⟨hw', hV⟩ | ⟨hw', hV⟩
        · obtain ⟨k1, k2, k3⟩ := f4 c (by have := hV.1; omega)
          refine body fX2_readPair fX5_readPair hV.1 (t_prs hx k3 hg hn t3 (t4.2.2 (by have := hV.1; omega))) ?_ (fun σm a1 a2 => ?_)
          · rw [hC]
            unfold fX2_readLine_J23
            rw [if_pos rfl, r1, Option.bind_some, hr, if_pos rfl, w1, Option.bind_some, hw', if_neg (by decide)]
          · obtain ⟨r', q1, q2⟩ := mw2 σm a1 a2
            rcases q2 with ⟨q2, -⟩ | ⟨-, q3⟩
            · rw [mpre σm a1, mset0 σm a1 a2, Option.bind_some, if_pos rfl, q1, Option.bind_some, q2, if_neg (by decide)]
            · exact absurd hV q3
        · refine fault1 ?_ (fun σm a1 a2 => ?_)
          · rw [hC]
            unfold fX2_readLine_J23
            rw [if_pos rfl, r1, Option.bind_some, hr, if_pos rfl, w1, Option.bind_some, hw', if_pos rfl]
            exact bl_cb
          · obtain ⟨r', q1, q2⟩ := mw2 σm a1 a2
            rcases q2 with ⟨-, q3⟩ | ⟨q2, -⟩
            · exact absurd q3 hV
            · rw [mpre σm a1, mset0 σm a1 a2, Option.bind_some, if_pos rfl, q1, Option.bind_some, q2, if_pos rfl]
