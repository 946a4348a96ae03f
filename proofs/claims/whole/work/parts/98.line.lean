/-! text: a line, on both sides -/
def w_cr (σ τ : ps_S) : Prop := (∀ k, k ≠ 36 → k ≠ 38 → τ.1 k = σ.1 k) ∧ (∀ k, k ≠ 36 → k ≠ 38 → τ.2 k = σ.2 k) ∧ τ.1 36 1 = σ.1 36 1
theorem w_cr.rf {σ : ps_S} : w_cr σ σ := ⟨fun _ _ _ => rfl, fun _ _ _ => rfl, rfl⟩
theorem w_cr.tr {σ τ υ : ps_S} (h : w_cr σ τ) (g : w_cr τ υ) : w_cr σ υ := ⟨fun k a b => (g.1 k a b).trans (h.1 k a b), fun k a b => (g.2.1 k a b).trans (h.2.1 k a b), g.2.2.trans h.2.2⟩
theorem w_cf.cr {σ τ : ps_S} (h : w_cf σ τ) : w_cr σ τ := ⟨fun k a _ => h.1 k a, fun k _ _ => by rw [h.2.1], h.2.2 1 (by decide) (by decide) (by decide)⟩
theorem w_cr_36 {σ : ps_S} {j : Nat} {v : Int32} (h : j ≠ 1) : w_cr σ (ps_ui σ 36 j v) := ⟨fun k a _ => ps_up_ne a, fun _ _ _ => rfl, by rw [pu_i, if_neg (fun q => h q.2.symm)]⟩
theorem w_cr_38 {σ : ps_S} {j : Nat} {v : Int32} : w_cr σ (ps_ui σ 38 j v) := ⟨fun k _ a => ps_up_ne a, fun _ _ _ => rfl, by rw [pu_i, if_neg (fun q => absurd q.1 (by decide))]⟩
theorem w_cr_l {σ : ps_S} {j : Nat} {v : Int64} : w_cr σ (ps_ul σ 36 j v) := ⟨fun _ _ _ => rfl, fun k a _ => ps_up_ne a, rfl⟩
def w_mr (σ τ : ps_S) : Prop := (∀ k, k ≠ 45 → k ≠ 48 → τ.1 k = σ.1 k) ∧ τ.2 = σ.2 ∧ ∀ j, j < 4 ∨ 9 < j → τ.1 45 j = σ.1 45 j
theorem w_mr.rf {σ : ps_S} : w_mr σ σ := ⟨fun _ _ _ => rfl, rfl, fun _ _ => rfl⟩
theorem w_mr.tr {σ τ υ : ps_S} (h : w_mr σ τ) (g : w_mr τ υ) : w_mr σ υ := ⟨fun k a b => (g.1 k a b).trans (h.1 k a b), g.2.1.trans h.2.1, fun j a => (g.2.2 j a).trans (h.2.2 j a)⟩
theorem w_mf.mr {σ τ : ps_S} (h : w_mf σ τ) : w_mr σ τ := ⟨fun k a _ => h.1 k a, h.2.1, fun j a => h.2.2 j (by omega) (by omega) (by omega) (by omega)⟩
theorem w_mr_45 {σ : ps_S} {j : Nat} {v : Int32} (h : 4 ≤ j ∧ j ≤ 9) : w_mr σ (ps_ui σ 45 j v) := ⟨fun k a _ => ps_up_ne a, rfl, fun i a => by rw [pu_i, if_neg (fun q => by omega)]⟩
theorem w_mr_48 {σ : ps_S} {j : Nat} {v : Int32} : w_mr σ (ps_ui σ 48 j v) := ⟨fun k _ a => ps_up_ne a, rfl, fun i _ => by rw [pu_i, if_neg (fun q => absurd q.1 (by decide))]⟩
def c_S (σ : ps_S) (t : Nat → Nat) (L : Nat) (g : gG) : Prop := σ.1 36 1 = nI L ∧ (∀ i, i < L → σ.1 37 i = (nI (t i)).toInt8.toInt32) ∧ σ.1 36 4 = nI (g_n g) ∧ σ.2 36 5 = lN (g_pr (g_j g)) ∧ ∀ s, s < 256 → σ.1 38 s = nI (g_w g s)
def c_Q (σ : ps_S) (κ s e : Nat) : Prop := σ.1 36 7 = nI (w_ck κ) ∧ σ.1 36 8 = nI s ∧ (κ ≠ 5 → σ.1 36 9 = nI e)
def m_S (σ : ps_S) (t : Nat → Nat) (L : Nat) (g : gG) : Prop := (σ.1 45 3 = nI L ∧ σ.1 45 8 = 0) ∧ (∀ i, i < L → σ.1 46 i = nI (t i)) ∧ m_G σ 48 0 g
def m_Q (σ : ps_S) (t : Nat → Nat) (κ s e : Nat) : Prop := σ.1 45 6 = nI (w_mk κ) ∧ σ.1 45 5 = nI s ∧ (κ ≠ 5 → σ.1 45 4 = nI e) ∧ (κ = 2 → σ.1 45 7 = nI (w_nu t s (e - s)))
def w_tp (t : Nat → Nat) (L : Nat) : Prop := L ≤ 540 ∧ ∀ i, t i < 256
theorem c_nx {σ : ps_S} {t : Nat → Nat} {L p κ s e : Nat} {g : gG} (hx : w_tp t L) (hp : p ≤ L) (h : c_S σ t L g) (h9 : σ.1 36 9 = nI p) (hk : w_tk t L p κ s e) : ∃ τ, fX2_nextToken σ = some τ ∧ w_cr σ τ ∧ c_S τ t L g ∧ c_Q τ κ s e ∧ τ.1 36 2 = σ.1 36 2 := by
  obtain ⟨τ, t1, t2, t3, t4, t5⟩ := c_tok hp hx.1 hx.2 h.1 h.2.1 h9 hk
  refine ⟨τ, t1, t2.cr, ⟨(t2.2.2 1 (by decide) (by decide) (by decide)).trans h.1, fun i hi => by rw [t2.1 37 (by decide)]; exact h.2.1 i hi, (t2.2.2 4 (by decide) (by decide) (by decide)).trans h.2.2.1, by rw [t2.2.1]; exact h.2.2.2.1, fun s hs => by rw [t2.1 38 (by decide)]; exact h.2.2.2.2 s hs⟩, ⟨t3, t4, t5⟩, t2.2.2 2 (by decide) (by decide) (by decide)⟩
theorem m_nx {σ : ps_S} {t : Nat → Nat} {L p κ s e : Nat} {g : gG} (hx : w_tp t L) (hp : p ≤ L) (h : m_S σ t L g) (h4 : σ.1 45 4 = nI p) (hk : w_tk t L p κ s e) : ∃ τ, fX5_next σ = some τ ∧ w_mr σ τ ∧ m_S τ t L g ∧ m_Q τ t κ s e := by
  obtain ⟨τ, t1, t2, t3, t4, t5, t6⟩ := m_tok hp hx.1 hx.2 h.1.1 h.2.1 h4 hk
  refine ⟨τ, t1, t2.mr, ⟨⟨(t2.2.2 3 (by decide) (by decide) (by decide) (by decide)).trans h.1.1, (t2.2.2 8 (by decide) (by decide) (by decide) (by decide)).trans h.1.2⟩, fun i hi => by rw [t2.1 46 (by decide)]; exact h.2.1 i hi, ?_⟩, t3, t4, t5, t6⟩
  exact h.2.2.fr (P := fun k => k = 45) (fun k hk => ⟨t2.1 k hk, by rw [t2.2.1]⟩) (by decide)
theorem c_bl {σ : ps_S} {s f : Nat} (h8 : σ.1 36 8 = nI s) : ∃ τ, fX2_blame (nI f) σ = some (0, τ) ∧ w_cr σ τ ∧ τ.1 36 2 = nI f ∧ τ.1 36 3 = nI s := by
  refine ⟨ps_ui (ps_ui σ 36 2 (nI f)) 36 3 (nI s), ?_, (w_cr_36 (by decide)).tr (w_cr_36 (by decide)), ?_, ?_⟩
  · unfold fX2_blame
    simp only [ps_let]
    rw [pu_i, if_neg (by omega), h8]
  · rw [pu_i, if_neg (by omega), pu_i, if_pos ⟨rfl, rfl⟩]
  · rw [pu_i, if_pos ⟨rfl, rfl⟩]
theorem m_bd {σ : ps_S} {t : Nat → Nat} {κ s e f : Nat} (hκ : κ < 6) (h : m_Q σ t κ s e) (hf : f = 1 ∨ κ ≤ 3) : ∃ τ, fX5_bad (nI f) σ = some (0, τ) ∧ w_mr σ τ ∧ τ.1 45 8 = nI f ∧ τ.1 45 9 = nI s := by
  have hJ : fX5_bad_J14 (nI f) σ = some (0, ps_ui (ps_ui σ 45 8 (nI f)) 45 9 (nI s)) := by
    unfold fX5_bad_J14
    simp only [ps_let]
    rw [pu_i, if_neg (by omega), h.2.1]
  refine ⟨ps_ui (ps_ui σ 45 8 (nI f)) 45 9 (nI s), ?_, (w_mr_45 (by omega)).tr (w_mr_45 (by omega)), ?_, ?_⟩
  · unfold fX5_bad
    rw [h.1]
    by_cases c : nI (w_mk κ) = 1
    · have := (mk_1 κ hκ).mp c
      have hf1 : f = 1 := by omega
      rw [if_pos c, ← hJ, hf1]; rfl
    · rw [if_neg c, hJ]
  · rw [pu_i, if_neg (by omega), pu_i, if_pos ⟨rfl, rfl⟩]
  · rw [pu_i, if_pos ⟨rfl, rfl⟩]
/-- what a body of a line does, on both sides -/
def t_body (FC FM : ps_S → Option (Int32 × ps_S)) (t : Nat → Nat) (L p : Nat) (g : gG) (σ : ps_S) : Prop :=
  (∃ f pl τ, 1 ≤ f ∧ f ≤ 4 ∧ FC σ = some (0, τ) ∧ w_cr σ τ ∧ τ.1 36 2 = nI f ∧ τ.1 36 3 = nI pl ∧ ∀ σm, m_S σm t L g → σm.1 45 4 = nI p → ∃ υ, (FM σm = some (0, υ) ∨ ∃ υ1, FM σm = some (1, υ1) ∧ fX5_readEnd υ1 = some (0, υ)) ∧ w_mr σm υ ∧ υ.1 45 8 = nI f ∧ υ.1 45 9 = nI pl) ∨
  (∃ p' g' τ, p < p' ∧ p' ≤ L ∧ g_wf g' ∧ 0 < g_n g' ∧ g_f g' = g_f g ∧ FC σ = some (1, τ) ∧ w_cr σ τ ∧ τ.1 36 2 = σ.1 36 2 ∧ c_S τ t L g' ∧ τ.1 36 9 = nI p' ∧ ∀ σm, m_S σm t L g → σm.1 45 4 = nI p → ∀ κ' s' e', w_tk t L p' κ' s' e' → ∃ υ1 υ, FM σm = some (1, υ1) ∧ fX5_readEnd υ1 = some (1, υ) ∧ w_mr σm υ ∧ m_S υ t L g' ∧ m_Q υ t κ' s' e')
/-- a fault at a token that both read next -/
theorem t_fault {FC FM : ps_S → Option (Int32 × ps_S)} {t : Nat → Nat} {L p : Nat} {g : gG} {σ τ : ps_S} {f s : Nat} (hf : 1 ≤ f ∧ f ≤ 4) (hτ : w_cr σ τ) (h8 : τ.1 36 8 = nI s) (hC : FC σ = fX2_blame (nI f) τ) (hM : ∀ σm, m_S σm t L g → σm.1 45 4 = nI p → ∃ υ, (FM σm = some (0, υ) ∨ ∃ υ1, FM σm = some (1, υ1) ∧ fX5_readEnd υ1 = some (0, υ)) ∧ w_mr σm υ ∧ υ.1 45 8 = nI f ∧ υ.1 45 9 = nI s) : t_body FC FM t L p g σ := by
  obtain ⟨ρ, r1, r2, r3, r4⟩ := c_bl (σ := τ) (f := f) h8
  exact Or.inl ⟨f, s, ρ, hf.1, hf.2, hC.trans r1, hτ.tr r2, r3, r4, hM⟩
def w_sm (q : ps_S) : Option (Int32 × ps_S) := if q.1 36 7 = (3 : Int32) then some ((1 : Int32), q) else (fX2_blame (1 : Int32) q).bind fun q7 => if q7.1 = 0 then some ((0 : Int32), q7.2) else some ((1 : Int32), q7.2)
theorem w_sm_no {σ : ps_S} {κ s e : Nat} (hκ : κ < 6) (h : c_Q σ κ s e) (hn : κ ≠ 3) : w_sm σ = fX2_blame (nI 1) σ := by
  obtain ⟨ρ, r1, -⟩ := c_bl (σ := σ) (f := 1) h.2.1
  unfold w_sm
  rw [h.1, if_neg (fun z => hn ((ck_3 κ hκ).mp z)), n1, r1, Option.bind_some, if_pos (by rfl)]
theorem w_sm_yes {σ : ps_S} {κ s e : Nat} (hκ : κ < 6) (h : c_Q σ κ s e) (hn : κ = 3) : w_sm σ = some (1, σ) := by
  unfold w_sm
  rw [h.1, if_pos ((ck_3 κ hκ).mpr hn)]
/-- the end of a line: the token is read on both sides -/
theorem t_end {FC FM : ps_S → Option (Int32 × ps_S)} {t : Nat → Nat} {L p q κ s e : Nat} {g g' : gG} {σ τ : ps_S} (hx : w_tp t L) (hpq : p ≤ q) (hq : q ≤ L) (hwf : g_wf g') (hn : 0 < g_n g') (hgf : g_f g' = g_f g) (hτ : w_cr σ τ) (h2 : τ.1 36 2 = σ.1 36 2) (hS : c_S τ t L g') (hQ : c_Q τ κ s e) (hk : w_tk t L q κ s e) (hC : FC σ = w_sm τ) (hM : ∀ σm, m_S σm t L g → σm.1 45 4 = nI p → ∃ υ1, FM σm = some (1, υ1) ∧ w_mr σm υ1 ∧ m_S υ1 t L g' ∧ m_Q υ1 t κ s e) : t_body FC FM t L p g σ := by
  obtain ⟨f1, -, -, f4, -, -, -⟩ := w_tk_f hq hk
  by_cases c : κ = 3
  · obtain ⟨k1, k2, k3⟩ := f4 (by omega) (by omega)
    refine Or.inr ⟨e, g', τ, by omega, k3, hwf, hn, hgf, hC.trans (w_sm_yes (by omega) hQ c), hτ, h2, hS, hQ.2.2 (by omega), fun σm a b κ' s' e' hk' => ?_⟩
    obtain ⟨υ1, u1, u2, u3, u4⟩ := hM σm a b
    obtain ⟨υ, v1, v2, v3, v4⟩ := m_nx hx k3 u3 (u4.2.2.1 (by omega)) hk'
    refine ⟨υ1, υ, u1, ?_, u2.tr v2, v3, v4⟩
    unfold fX5_readEnd
    rw [u4.1, if_pos ((mk_4 κ (by omega)).mpr c), v1, Option.bind_some]
  · refine t_fault (f := 1) (s := s) (by omega) hτ hQ.2.1 (hC.trans (w_sm_no (by omega) hQ c)) (fun σm a b => ?_)
    obtain ⟨υ1, u1, u2, u3, u4⟩ := hM σm a b
    obtain ⟨υ, v1, v2, v3, v4⟩ := m_bd (f := 1) (by omega) u4 (Or.inl rfl)
    refine ⟨υ, Or.inr ⟨υ1, u1, ?_⟩, u2.tr v2, v3, v4⟩
    unfold fX5_readEnd
    rw [u4.1, if_neg (fun z => c ((mk_4 κ (by omega)).mp z)), n1, v1, Option.bind_some]
    rfl
theorem cb_0 {τ : ps_S} : ps_cb (0 : Int32) (some ((0 : Int32), τ)) = some (0, τ) := rfl
theorem bl_cb {v : Int32} {σ : ps_S} : ((fX2_blame v σ).bind fun q => ps_cb q.1 (some (q.1, q.2))) = fX2_blame v σ := rfl
theorem bd_cb {v : Int32} {σ : ps_S} : ((fX5_bad v σ).bind fun q => ps_cb q.1 (some (q.1, q.2))) = fX5_bad v σ := by
  unfold fX5_bad
  split <;> rfl
/-- things -/
theorem t_thgs {σ : ps_S} {t : Nat → Nat} {L p : Nat} {g : gG} (hx : w_tp t L) (hp : p ≤ L) (hg : g_wf g) (hn : g_n g = 0) (h : c_S σ t L g) (h9 : σ.1 36 9 = nI p) : t_body fX2_readThings fX5_readThings t L p g σ := by
  obtain ⟨κ, s, e, hk⟩ := w_tk_ex t hp
  obtain ⟨τ, t1, t2, t3, t4, t5⟩ := c_nx hx hp h h9 hk
  obtain ⟨f1, -, -, f4, -, f6, -⟩ := w_tk_f hp hk
  by_cases c : κ = 2
  · obtain ⟨k1, k2, k3⟩ := f4 (by omega) (by omega)
    obtain ⟨k4, k5⟩ := f6 c
    have num := c_number hx.1 hx.2 t3.2.1 t4.2.1 (t4.2.2 (by omega)) (by omega) k3 k4 k5
    have hnu := w_nu_le (t := t) (q := s) (k := e - s) (fun i a b => k5 i a (by omega))
    have h10 : 10 ^ (e - s) ≤ 10 ^ 3 := Nat.pow_le_pow_right (by decide) (by omega)
    have preC : fX2_readThings σ = (if nI (w_nu t s (e - s)) < 1 then fX2_readThings_J34 τ else if nI (w_nu t s (e - s)) ≤ 8 then (fX2_nextToken (ps_ui τ 36 4 (nI (w_nu t s (e - s))))).bind fun q6 => w_sm q6 else fX2_readThings_J34 τ) := by
      unfold fX2_readThings
      rw [t1, Option.bind_some, t4.1, if_pos ((ck_2 κ (by omega)).mpr c), num, Option.bind_some]
      rfl
    have h34 : fX2_readThings_J34 τ = fX2_blame (nI 2) τ := bl_cb
    by_cases d : 1 ≤ w_nu t s (e - s) ∧ w_nu t s (e - s) ≤ 8
    · obtain ⟨x, hxx⟩ : ∃ x, x = w_nu t s (e - s) := ⟨_, rfl⟩
      rw [← hxx] at d preC
      have e1 : ¬ nI x < 1 := nI_nlt d.1 (by omega)
      rw [if_neg e1, nl_8, if_pos (nI_le d.2 (by decide))] at preC
      obtain ⟨κ2, s2, e2, hk2⟩ := w_tk_ex t k3
      have hS5 : c_S (ps_ui τ 36 4 (nI x)) t L (x, g_w g, g_j g, g_f g) := ⟨by rw [pu_i, if_neg (by omega)]; exact t3.1, fun i hi => by rw [pu_i, if_neg (by omega)]; exact t3.2.1 i hi, by rw [pu_i, if_pos ⟨rfl, rfl⟩], t3.2.2.2.1, fun s hs => by rw [pu_i, if_neg (by omega)]; exact t3.2.2.2.2 s hs⟩
      obtain ⟨ρ, r1, r2, r3, r4, r5⟩ := c_nx (p := e) hx k3 hS5 (by rw [pu_i, if_neg (by omega)]; exact t4.2.2 (by omega)) hk2
      have hj0 : ∀ t, g_j g t = 0 := fun t => hg.2.2.2.2.1 t (by omega)
      have hw0 : ∀ s, g_w g s = 0 := fun s => hg.2.2.1 s (Or.inl hn)
      have hwf' : g_wf (x, g_w g, g_j g, g_f g) := by
        refine ⟨d.2, hg.2.1, fun s _ => hw0 s, fun t => ?_, fun t _ => hj0 t, hg.2.2.2.2.2.1, hg.2.2.2.2.2.2.1, hg.2.2.2.2.2.2.2.1, fun r s _ => hg.2.2.2.2.2.2.2.2 r s (Or.inl hn)⟩
        show g_j g t < 2 ^ x
        rw [hj0 t]; exact p2_pos x
      refine t_end (q := e) hx (by omega) k3 hwf' (show 0 < x by omega) rfl ((t2.tr (w_cr_36 (by decide))).tr r2) ?_ r3 r4 hk2 ?_ (fun σm a b => ?_)
      · rw [r5, pu_i, if_neg (by omega)]; exact t5
      · rw [preC, r1, Option.bind_some]
      · obtain ⟨μ, m1, m2, m3, m4⟩ := m_nx hx hp a b hk
        have hS4 : m_S (ps_ui μ 48 0 (nI x)) t L (x, g_w g, g_j g, g_f g) := by
          obtain ⟨z1, z2, z3, z4⟩ := m3.2.2
          refine ⟨⟨by rw [pu_i, if_neg (by omega)]; exact m3.1.1, by rw [pu_i, if_neg (by omega)]; exact m3.1.2⟩, fun i hi => by rw [pu_i, if_neg (by omega)]; exact m3.2.1 i hi, by rw [pu_i, if_pos ⟨rfl, rfl⟩], fun s hs => by rw [pu_i, if_neg (by omega)]; exact z2 s hs, fun t ht => by rw [pu_i, if_neg (by omega)]; exact z3 t ht, fun r s hr hs => by rw [pu_i, if_neg (by omega)]; exact z4 r s hr hs⟩
        obtain ⟨υ1, v1, v2, v3, v4⟩ := m_nx hx k3 hS4 (by rw [pu_i, if_neg (by omega)]; exact m4.2.2.1 (by omega)) hk2
        refine ⟨υ1, ?_, (m2.tr w_mr_48).tr v2, v3, v4⟩
        have o0 : ∀ {α : Type} {y : Option α}, ps_ck (0 : Int32) 1289 y = y := fun {_ _} => pk_ok (i := 0) (by decide) (by decide)
        unfold fX5_readThings
        rw [m1, Option.bind_some, m4.1, if_pos ((mk_3 κ (by omega)).mpr c), m4.2.2.2 c, ← hxx, nl_8, m_isIn_yes e1 (nI_nlt d.2 (by decide)), Option.bind_some, if_neg (by decide), o0, show Int32.toNatClampNeg 0 = 0 from rfl]
        simp only [ps_let]
        rw [v1, Option.bind_some]
    · have preC2 : fX2_readThings σ = fX2_blame (nI 2) τ := by
        rw [preC, h34]
        by_cases e1 : w_nu t s (e - s) < 1
        · rw [if_pos (show nI (w_nu t s (e - s)) < 1 from nI_lt e1 (by decide))]
        · rw [if_neg (show ¬ nI (w_nu t s (e - s)) < 1 from nI_nlt (show 1 ≤ w_nu t s (e - s) by omega) (by omega)), nl_8, if_neg (nI_ge (by omega) (by omega))]
      refine t_fault (f := 2) (s := s) (by omega) t2 t4.2.1 preC2 (fun σm a b => ?_)
      obtain ⟨μ, m1, m2, m3, m4⟩ := m_nx hx hp a b hk
      obtain ⟨υ, v1, v2, v3, v4⟩ := m_bd (f := 2) (by omega) m4 (Or.inr (by omega))
      refine ⟨υ, Or.inl ?_, m2.tr v2, v3, v4⟩
      unfold fX5_readThings
      rw [m1, Option.bind_some, m4.1, if_pos ((mk_3 κ (by omega)).mpr c), m4.2.2.2 c, nl_8]
      have hno : fX5_isIn (nI (w_nu t s (e - s))) 1 (nI 8) = some 0 := by
        refine m_isIn_no ?_
        by_cases e1 : w_nu t s (e - s) < 1
        · exact Or.inl (nI_lt e1 (by decide))
        · exact Or.inr (nI_lt (by omega) (by omega))
      rw [hno, Option.bind_some, if_pos rfl]
      exact bd_cb.trans v1
  · refine t_fault (f := 1) (s := s) (by omega) t2 t4.2.1 ?_ (fun σm a b => ?_)
    · unfold fX2_readThings
      rw [t1, Option.bind_some, t4.1, if_neg (fun z => c ((ck_2 κ (by omega)).mp z))]
      exact bl_cb
    · obtain ⟨μ, m1, m2, m3, m4⟩ := m_nx hx hp a b hk
      obtain ⟨υ, v1, v2, v3, v4⟩ := m_bd (f := 1) (by omega) m4 (Or.inl rfl)
      refine ⟨υ, Or.inl ?_, m2.tr v2, v3, v4⟩
      unfold fX5_readThings
      rw [m1, Option.bind_some, m4.1, if_neg (fun z => c ((mk_3 κ (by omega)).mp z))]
      exact bd_cb.trans v1
