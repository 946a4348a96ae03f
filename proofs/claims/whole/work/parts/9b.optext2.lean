/-! text: the whole -/
theorem lp_in {S X : Type} {step : S → Option (S ⊕ X)} {s s' : S} (h : step s = some (.inl s')) {F : Nat} : ps_lp step (F + 1) s = ps_lp step F s' := by
  simp only [ps_lp, h, Option.bind_some]
def t_out (t : Nat → Nat) (L d a1 κ s e : Nat) (g : gG) (σ : ps_S) : Prop :=
    (∃ f pl a' τ, 1 ≤ f ∧ f ≤ 4 ∧ (∀ F, d < F → ps_lp (fun q => fX2_readAll_S44 q.1 q.2) F (nI a1, σ) = some (a', τ)) ∧ w_cr σ τ ∧ τ.1 36 2 = nI f ∧ τ.1 36 3 = nI pl ∧ ∀ σm, m_S σm t L g → m_Q σm t κ s e → ∃ υ, (∀ F, d < F → ps_lp (fun q => fX5_text_S56 q.1 q.2) F (nI a1, σm) = some (.inl υ)) ∧ w_mr σm υ ∧ υ.1 45 8 = nI f ∧ υ.1 45 9 = nI pl) ∨
    (∃ a' g' τ, g_wf g' ∧ g_f g' = g_f g ∧ (∀ F, d < F → ps_lp (fun q => fX2_readAll_S44 q.1 q.2) F (nI a1, σ) = some (nI a', τ)) ∧ w_cr σ τ ∧ τ.1 36 2 = σ.1 36 2 ∧ c_S τ t L g' ∧ ∀ σm, m_S σm t L g → m_Q σm t κ s e → ∃ υ, (∀ F, d < F → ps_lp (fun q => fX5_text_S56 q.1 q.2) F (nI a1, σm) = some (.inr (nI a', υ))) ∧ w_mr σm υ ∧ m_S υ t L g')
theorem t_all {t : Nat → Nat} {L : Nat} (hx : w_tp t L) : ∀ (d p a1 κ s e : Nat) (g : gG) (σ : ps_S), L ≤ p + d → p ≤ L → 2 * a1 ≤ p → g_wf g → ((a1 = 0 ∧ g_n g = 0) ∨ (a1 ≠ 0 ∧ 0 < g_n g)) → c_S σ t L g → σ.1 36 9 = nI p → w_tk t L p κ s e → t_out t L d a1 κ s e g σ := by
  intro d
  induction d using Nat.strongRecOn with
  | _ d ih =>
    intro p a1 κ s e g σ hd hp ha hg hb h h9 hk
    have hL := hx.1
    obtain ⟨f1, -⟩ := w_tk_f hp hk
    obtain ⟨b, hbb⟩ : ∃ b : Int32, b = if a1 = 0 then 1 else 0 := ⟨_, rfl⟩
    have hb' : (b = 1 ∧ g_n g = 0) ∨ (b = 0 ∧ 0 < g_n g) := by
      rcases hb with ⟨x, y⟩ | ⟨x, y⟩
      · exact Or.inl ⟨by rw [hbb, if_pos x], y⟩
      · exact Or.inr ⟨by rw [hbb, if_neg x], y⟩
    have cstep : fX2_readAll_S44 (nI a1) σ = fX2_readAll_J61 (nI a1) b σ := by
      unfold fX2_readAll_S44
      rw [nl_540, if_neg (nI_ge (by omega) (by decide)), hbb]
      by_cases c : a1 = 0
      · rw [if_pos ((nI0_iff (by omega)).mpr c), if_pos c]
      · rw [if_neg (fun z => c ((nI0_iff (by omega)).mp z)), if_neg c]
    have lp1 : ∀ {S X : Type} {step : S → Option (S ⊕ X)} {s : S} {x : X}, step s = some (.inr x) → ∀ F, d < F → ps_lp step F s = some x := fun {S X step s x} h F hF => by
      match F, hF with
      | F + 1, _ => exact lp_out h
    rcases t_line_ok hx hp hg hb' h h9 hk with ⟨c, τ, c1, c2, c3, c4⟩ | ⟨c, hl⟩
    · refine Or.inr ⟨a1, g, τ, hg, rfl, lp1 (step := fun q => fX2_readAll_S44 q.1 q.2) ?_, c2, c3, c4, fun σm m1 m2 => ⟨σm, lp1 (step := fun q => fX5_text_S56 q.1 q.2) ?_, w_mr.rf, m1⟩⟩
      · show fX2_readAll_S44 (nI a1) σ = _
        rw [cstep]
        unfold fX2_readAll_J61
        rw [c1, Option.bind_some, if_pos (by rfl)]
      · show fX5_text_S56 (nI a1) σm = _
        unfold fX5_text_S56
        rw [m2.1, if_pos ((mk_0 κ (by omega)).mpr c)]
    · have mne : ∀ σm, m_Q σm t κ s e → ¬ σm.1 45 6 = 0 := fun σm m2 z => c ((mk_0 κ (by omega)).mp (by rw [← m2.1]; exact z))
      rcases hl with ⟨f, pl, τ, a1', a2, a3, a4, a5, a6, a7⟩ | ⟨p', g', τ, a1', a2, a3, a4, a5, a6, a7, a8, a9, a10, a11⟩
      · refine Or.inl ⟨f, pl, nI a1, τ, a1', a2, lp1 (step := fun q => fX2_readAll_S44 q.1 q.2) ?_, a4, a5, a6, fun σm m1 m2 => ?_⟩
        · show fX2_readAll_S44 (nI a1) σ = _
          rw [cstep]
          unfold fX2_readAll_J61
          rw [a3, Option.bind_some, if_pos (by rfl)]
        · obtain ⟨υ, u1, u2, u3, u4⟩ := a7 σm m1 m2
          refine ⟨υ, lp1 (step := fun q => fX5_text_S56 q.1 q.2) ?_, u2, u3, u4⟩
          show fX5_text_S56 (nI a1) σm = _
          unfold fX5_text_S56
          rw [if_neg (mne σm m2)]
          rcases u1 with u1 | ⟨υ1, u1, u5⟩
          · rw [u1, Option.bind_some, if_pos (by rfl)]
          · rw [u1, Option.bind_some, if_neg (show ¬ (1 : Int32) = 0 by decide), u5, Option.bind_some, if_pos (by rfl)]
      · obtain ⟨κ', s', e', hk'⟩ := w_tk_ex t a2
        have cs : fX2_readAll_S44 (nI a1) σ = some (.inl (nI (a1 + 1), τ)) := by
          rw [cstep]
          unfold fX2_readAll_J61
          rw [a6, Option.bind_some, if_neg (show ¬ (1 : Int32) = 0 by decide)]
          simp only [ps_let]
          rw [nI_1]
        have go : ∀ σm, m_S σm t L g → m_Q σm t κ s e → ∃ υ, fX5_text_S56 (nI a1) σm = some (.inl (nI (a1 + 1), υ)) ∧ w_mr σm υ ∧ m_S υ t L g' ∧ m_Q υ t κ' s' e' := fun σm m1 m2 => by
          obtain ⟨υ1, υ, u1, u2, u3, u4, u5⟩ := a11 σm m1 m2 κ' s' e' hk'
          refine ⟨υ, ?_, u3, u4, u5⟩
          unfold fX5_text_S56
          rw [if_neg (mne σm m2), u1, Option.bind_some, if_neg (show ¬ (1 : Int32) = 0 by decide), u2, Option.bind_some, if_neg (show ¬ (1 : Int32) = 0 by decide)]
          simp only [ps_let]
          rw [nI_1]
        have lp2 : ∀ {S X : Type} {step : S → Option (S ⊕ X)} {s s' : S} {x : X}, step s = some (.inl s') → (∀ F, d - 1 < F → ps_lp step F s' = some x) → ∀ F, d < F → ps_lp step F s = some x := fun {S X step s s' x} h1 h2 F hF => by
          match F, hF with
          | F + 1, hF => rw [lp_in h1]; exact h2 F (by omega)
        rcases ih (d - 1) (by omega) p' (a1 + 1) κ' s' e' g' τ (by omega) a2 (by omega) a3 (Or.inr ⟨by omega, a4⟩) a9 a10 hk' with ⟨f, pl, a', ρ, b1, b2, b3, b4, b5, b6, b7⟩ | ⟨a', g'', ρ, b1, b2, b3, b4, b5, b6, b7⟩
        · refine Or.inl ⟨f, pl, a', ρ, b1, b2, lp2 (step := fun q => fX2_readAll_S44 q.1 q.2) cs b3, a7.tr b4, b5, b6, fun σm m1 m2 => ?_⟩
          obtain ⟨υ, u1, u2, u3, u4⟩ := go σm m1 m2
          obtain ⟨ω, w1, w2, w3⟩ := b7 υ u3 u4
          exact ⟨ω, lp2 (step := fun q => fX5_text_S56 q.1 q.2) u1 w1, u2.tr w2, w3⟩
        · refine Or.inr ⟨a', g'', ρ, b1, b2.trans a5, lp2 (step := fun q => fX2_readAll_S44 q.1 q.2) cs b3, a7.tr b4, b5.trans a8, b6, fun σm m1 m2 => ?_⟩
          obtain ⟨υ, u1, u2, u3, u4⟩ := go σm m1 m2
          obtain ⟨ω, w1, w2, w3⟩ := b7 υ u3 u4
          exact ⟨ω, lp2 (step := fun q => fX5_text_S56 q.1 q.2) u1 w1, u2.tr w2, w3⟩
/-- begin anew -/
theorem c_begin {σ : ps_S} {g : gG} (hw : ∀ s, s < 256 → σ.1 38 s = nI (g_w g s)) (hf : ∀ r s, g_f g r s = 0) : ∃ τ, fX1_begin (nI (g_n g)) (lN (g_pr (g_j g))) 38 σ = some τ ∧ ps_fr (fun q => 1 ≤ q ∧ q ≤ 7) σ τ ∧ c_G τ 1 g := by
  unfold fX1_begin
  simp only [ps_let]
  generalize h2 : ps_ul (ps_ui σ 1 0 (nI (g_n g))) 1 1 (lN (g_pr (g_j g))) = σ2
  have f2 : ps_fr (fun q => 1 ≤ q ∧ q ≤ 7) σ σ2 := by
    rw [← h2]
    exact (ps_fr_ui (by decide)).tr (ps_fr_ul (by decide))
  have e0 : σ2.1 1 0 = nI (g_n g) := by rw [← h2, pu_l1, pu_i, if_pos ⟨rfl, rfl⟩]
  have e1 : σ2.2 1 1 = lN (g_pr (g_j g)) := by rw [← h2, pu_l, if_pos ⟨rfl, rfl⟩]
  obtain ⟨x, hx, q1, q2, q3, q4⟩ := ps_for (step := fun s => fX1_begin_S13 38 s.1 s.2) 4
    (fun i s => s.1 = nI i ∧ ps_fr (fun q => 1 ≤ q ∧ q ≤ 7) σ s.2 ∧ s.2.1 1 = σ2.1 1 ∧ s.2.2 1 = σ2.2 1 ∧ ∀ l s', l < i → s' < 256 → s.2.1 (2 + 1 + l) s' = nI 0)
    (fun x => ps_fr (fun q => 1 ≤ q ∧ q ≤ 7) σ x ∧ x.1 1 = σ2.1 1 ∧ x.2 1 = σ2.2 1 ∧ ∀ l s', l < 4 → s' < 256 → x.1 (2 + 1 + l) s' = nI 0)
    (F := 100000) (s := ((0 : Int32), σ2)) (by
      rintro i ⟨a2, τ⟩ hi ⟨e, hf, g1, g2, hv⟩
      simp only at e hf g1 g2 hv
      subst e
      obtain ⟨ρ, r1, r2, r3, r4⟩ := fill_row (step := fun s => fX1_begin_S22 38 (nI i) s.1 s.2) (σ := τ) (N := 256) (k := 2 + 1 + i) (v := fun _ => nI 0) (by decide) (fun j μ hj _ _ _ => by
          show fX1_begin_S22 38 (nI i) (nI j) μ = _
          unfold fX1_begin_S22
          simp only [ps_let]
          rw [nl_256, if_neg (nI_ge hj (by decide)), pk_ok (by omega) (by decide), pk_ok hj (by decide), nI_clamp (by omega), nI_clamp (by omega), nI_1]
          rfl) (fun μ _ => by
          show fX1_begin_S22 38 (nI i) (nI 256) μ = _
          unfold fX1_begin_S22
          rw [if_pos (by decide)])
      refine ⟨(nI (i + 1), ρ), ?_, rfl, hf.tr (r2.wk (fun k q => by omega)), ?_, ?_, fun l s' hl hs => ?_⟩
      · show fX1_begin_S13 38 (nI i) τ = _
        unfold fX1_begin_S13
        rw [nl_4, if_neg (nI_ge hi (by decide)), r1, Option.bind_some]
        simp only [ps_let]
        rw [nI_1]
      · show ρ.1 1 = _
        rw [(r2 1 (by omega)).1]; exact g1
      · show ρ.2 1 = _
        rw [(r2 1 (by omega)).2]; exact g2
      · show ρ.1 (2 + 1 + l) s' = _
        by_cases c : l = i
        · rw [c]; exact r3 s' hs
        · rw [(r2 (2 + 1 + l) (by omega)).1]; exact hv l s' (by omega) hs) (by
      rintro ⟨a2, τ⟩ ⟨e, hf, g1, g2, hv⟩
      simp only at e hf g1 g2 hv
      subst e
      refine ⟨τ, ?_, hf, g1, g2, hv⟩
      show fX1_begin_S13 38 (nI 4) τ = _
      unfold fX1_begin_S13
      rw [if_pos (by decide)]) ⟨rfl, f2, rfl, rfl, fun l s' hl => absurd hl (Nat.not_lt_zero _)⟩ (by decide)
  have o4 : ∀ {α : Type} {y : Option α}, ps_ck (4 : Int32) 5 y = y := fun {_ _} => pk_ok (i := 4) (by decide) (by decide)
  rw [hx, Option.bind_some, o4, pc_ok (by decide), show Int32.toNatClampNeg 0 = 0 from rfl, show Int32.toNatClampNeg 256 = 256 from rfl, show Int32.toNatClampNeg 4 = 4 from rfl]
  generalize hc : va_cpy (x.1 38) (x.1 (2 + 1 + 4)) 0 0 256 = f
  refine ⟨ps_ur x (2 + 1 + 4) f, rfl, q1.tr (ps_fr_ur (by decide)), ?_, ?_, fun s hs => ?_, fun r s hr hs => ?_⟩
  · rw [pu_r, if_neg (by decide), q2]; exact e0
  · rw [pu_r2, q3]; exact e1
  · rw [pu_r, if_pos (by decide), ← hc, sb_cpy0 hs, (q1 38 (by decide)).1]; exact hw s hs
  · rw [pu_r, if_neg (by omega), show 1 + 2 + r = 2 + 1 + r by omega, q4 r s hr hs, hf r s]
theorem w_cr.fr {σ τ : ps_S} (h : w_cr σ τ) : ps_fr (fun q => q = 36 ∨ q = 38) σ τ := fun k hk => ⟨h.1 k (by omega) (by omega), h.2.1 k (by omega) (by omega)⟩
def A_txt (A : gA) (f : Nat) : gA := (a_g A, a_k A, a_h A, a_i A, a_b A, a_t A, 0, f)
theorem A_txt_wf {A : gA} {f : Nat} (h : a_wf A) (hf : f ≤ 4) : a_wf (A_txt A f) := ⟨h.1, h.2.1, h.2.2.1, h.2.2.2.1, h.2.2.2.2.1, Nat.zero_le _, hf⟩
theorem c_txt {σ τ : ps_S} {A : gA} {f : Nat} (h : c_R σ A) (hf : ps_fr (fun q => q = 36 ∨ q = 38) σ τ) (h1 : τ.1 36 1 = nI 0) (h2 : τ.1 36 2 = nI f) : c_R τ (A_txt A f) := by
  obtain ⟨a1, a2, a3, a4, a5, a6⟩ := h
  refine ⟨a1.fr hf (fun k x y => by omega), c_K_same (a2.fr hf (fun k x y => by omega)) rfl rfl rfl, fun i hi => ?_, fun i hi => absurd hi (Nat.not_lt_zero _), h1, h2⟩
  obtain ⟨b1, b2⟩ := a3 i hi
  exact ⟨by rw [(hf (8 + 7 * i) (by omega)).1]; exact b1, fun hb => (b2 hb).fr hf (fun k x y => by omega)⟩
theorem bind_eta {α β : Type} (x : Option (α × β)) : (x.bind fun e => some (e.1, e.2)) = x := by cases x <;> rfl
def w_g0 : gG := (0, fun _ => 0, fun _ => 0, fun _ _ => 0)
theorem w_g0_wf : g_wf w_g0 := ⟨Nat.zero_le _, fun _ => Nat.zero_le _, fun _ _ => rfl, fun _ => (by decide : (0 : Nat) < 2 ^ 0), fun _ _ => rfl, fun t u => (Nat.zero_testBit u).trans (Nat.zero_testBit t).symm, fun t => Nat.zero_testBit t, fun _ _ => (by decide : (0 : Nat) < 1000003), fun _ _ _ => rfl⟩
theorem c_readAll {σ : ps_S} {A : gA} (hw : a_wf A) (hc : c_R σ A) : ∃ σ8, fX2_readAll σ = (ps_lp (fun s => fX2_readAll_S44 s.1 s.2) 100000 (nI 0, σ8)) ∧ w_cr σ σ8 ∧ σ8.1 36 2 = 0 ∧ c_S σ8 (a_t A) (a_l A) w_g0 ∧ σ8.1 36 9 = nI 0 := by
  obtain ⟨a1, a2, a3, a4, a5, a6⟩ := hc
  obtain ⟨σ3, h3⟩ : ∃ s, s = ps_ul (ps_ui (ps_ui σ 36 2 0) 36 4 0) 36 5 0 := ⟨_, rfl⟩
  obtain ⟨ρ, r1, r2, r3, r4⟩ := fill_row (step := fun s => fX2_readAll_S17 s.1 s.2) (σ := σ3) (N := 256) (k := 38) (v := fun _ => nI 0) (by decide) (fun j μ hj _ _ _ => by
      show fX2_readAll_S17 (nI j) μ = _
      unfold fX2_readAll_S17
      simp only [ps_let]
      rw [nl_256, if_neg (nI_ge hj (by decide)), pk_ok hj (by decide), nI_clamp (by omega), nI_1]
      rfl) (fun μ _ => by
      show fX2_readAll_S17 (nI 256) μ = _
      unfold fX2_readAll_S17
      rw [if_pos (by decide)])
  have c3 : w_cr σ σ3 := by rw [h3]; exact ((w_cr_36 (by decide)).tr (w_cr_36 (by decide))).tr w_cr_l
  have cρ : w_cr σ3 ρ := ⟨fun k _ hk => (r2 k hk).1, fun k _ hk => (r2 k hk).2, by rw [(r2 36 (by decide)).1]⟩
  have h36 : ∀ j, ρ.1 36 j = σ3.1 36 j := fun j => by rw [(r2 36 (by decide)).1]
  have e2 : σ3.1 36 2 = 0 := by rw [h3, pu_l1, pu_i, if_neg (by omega), pu_i, if_pos ⟨rfl, rfl⟩]
  have e4 : σ3.1 36 4 = 0 := by rw [h3, pu_l1, pu_i, if_pos ⟨rfl, rfl⟩]
  have e5 : ρ.2 36 5 = 0 := by rw [(r2 36 (by decide)).2, h3, pu_l, if_pos ⟨rfl, rfl⟩]
  have call := (c3.tr cρ).tr (w_cr_36 (σ := ρ) (j := 9) (v := 0) (by decide))
  refine ⟨ps_ui ρ 36 9 0, ?_, call, ?_, ⟨?_, fun i hi => ?_, ?_, ?_, fun s hs => ?_⟩, ?_⟩
  · unfold fX2_readAll
    simp only [ps_let]
    rw [← h3, r1, Option.bind_some]
    exact bind_eta _
  · rw [pu_i, if_neg (by omega), h36]; exact e2
  · rw [call.2.2]; exact a5
  · rw [call.1 37 (by decide) (by decide)]; exact a4 i hi
  · rw [pu_i, if_neg (by omega), h36, e4]; rfl
  · rw [pu_i2, e5]; rfl
  · rw [pu_i, if_neg (by omega), r3 s hs]; rfl
  · rw [pu_i, if_pos ⟨rfl, rfl⟩]; rfl
theorem m_clear {σ : ps_S} {a1 : Int32} : ∃ τ, ps_lp (fun s => fX5_text_S32 a1 s.1 s.2) 100000 ((0 : Int32), σ) = some τ ∧ ps_fr (fun q => q = 48) σ τ ∧ m_G τ 48 0 w_g0 := by
  obtain ⟨ρ, r1, r2, r3, r4⟩ := fill_row (step := fun s => fX5_text_S32 a1 s.1 s.2) (σ := σ) (N := 1289) (k := 48) (v := fun _ => nI 0) (by decide) (fun j μ hj _ _ _ => by
      show fX5_text_S32 a1 (nI j) μ = _
      unfold fX5_text_S32
      simp only [ps_let]
      rw [nl_1289, if_neg (nI_ge hj (by decide)), pk_ok hj (by decide), nI_clamp (by omega), nI_1]
      rfl) (fun μ _ => by
      show fX5_text_S32 a1 (nI 1289) μ = _
      unfold fX5_text_S32
      rw [if_pos (by decide)])
  exact ⟨ρ, r1, r2, r3 _ (by decide), fun s hs => r3 _ (by omega), fun t ht => r3 _ (by omega), fun r s hr hs => r3 _ (by omega)⟩
theorem w_mr.fr {σ τ : ps_S} (h : w_mr σ τ) : ps_fr (fun q => q = 45 ∨ q = 48) σ τ := fun k hk => ⟨h.1 k (by omega) (by omega), by rw [h.2.1]⟩
theorem m_txt {σ τ : ps_S} {A : gA} {f : Nat} (h : m_R σ A) (hf : ps_fr (fun q => q = 45 ∨ q = 48) σ τ) (h15 : τ.1 45 15 = σ.1 45 15) (h2 : τ.1 45 2 = nI 0) (h8 : τ.1 45 8 = nI f) : m_R τ (A_txt A f) := by
  obtain ⟨a1, a2, a3, a4, a5, a6, a7⟩ := h
  refine ⟨a1.fr hf (by decide), h15.trans a2, fun i hi => (a3 i hi).fr hf (by decide), fun i hi => ?_, fun i hi => absurd hi (Nat.not_lt_zero _), h2, h8⟩
  obtain ⟨b1, b2⟩ := a4 i hi
  exact ⟨by rw [(hf 51 (by decide)).1]; exact b1, fun hb => (b2 hb).fr hf (by decide)⟩
theorem op_text {σ : ps_S} (h : b_R σ) : ∃ (r : Int32) (τ υ : ps_S), fX4_text σ = some (r, τ) ∧ fX5_text τ = some (r, υ) ∧ b_R υ := by
  obtain ⟨A, hw, hc, hm⟩ := h
  have hx : w_tp (a_t A) (a_l A) := ⟨hw.2.2.2.2.2.1, hw.2.2.2.2.1⟩
  obtain ⟨σ8, c1, c2, c3, c4, c5⟩ := c_readAll hw hc
  obtain ⟨κ, s, e, hk⟩ := w_tk_ex (a_t A) (Nat.zero_le (a_l A))
  have hout := t_all hx (a_l A) 0 0 κ s e w_g0 σ8 (by omega) (Nat.zero_le _) (by omega) w_g0_wf (Or.inl ⟨rfl, rfl⟩) c4 c5 hk
  have hLb := hx.1
  -- the model's beginning, from a state that still holds the tape
  have mstart : ∀ τ, (∀ i, i < a_l A → τ.1 46 i = nI (a_t A i)) → τ.1 45 2 = nI (a_l A) → ∃ μ, m_S μ (a_t A) (a_l A) w_g0 ∧ m_Q μ (a_t A) κ s e ∧ ps_fr (fun q => q = 45 ∨ q = 48) τ μ ∧ μ.1 45 15 = τ.1 45 15 ∧ μ.1 45 2 = nI 0 ∧ fX5_text τ = (ps_lp (fun s => fX5_text_S56 s.1 s.2) 100000 (nI 0, μ)).bind fun e14 => match e14 with | .inl y15 => fX5_text_J77 y15 | .inr y16 => ((fX5_copy 48 (0 : Int32) 47 (0 : Int32) y16.2).bind fun q17 => (ps_let (ps_ui q17 45 15 (0 : Int32)) fun σ18 => some (y16.1, σ18))) := fun τ h46 h2 => by
    obtain ⟨σ5, h5⟩ : ∃ s, s = ps_ui (ps_ui (ps_ui (ps_ui (ps_ui τ 45 0 0) 45 3 (nI (a_l A))) 45 2 0) 45 8 0) 45 4 0 := ⟨_, rfl⟩
    have f5 : ps_fr (fun q => q = 45 ∨ q = 48) τ σ5 := by
      rw [h5]
      exact ((((ps_fr_ui (Or.inl rfl)).tr (ps_fr_ui (Or.inl rfl))).tr (ps_fr_ui (Or.inl rfl))).tr (ps_fr_ui (Or.inl rfl))).tr (ps_fr_ui (Or.inl rfl))
    obtain ⟨ρ, r1, r2, r3⟩ := m_clear (σ := σ5) (a1 := 0)
    have h45 : ∀ j, ρ.1 45 j = σ5.1 45 j := fun j => by rw [(r2 45 (by decide)).1]
    have hS : m_S ρ (a_t A) (a_l A) w_g0 := by
      refine ⟨⟨?_, ?_⟩, fun i hi => ?_, r3⟩
      · rw [h45, h5, pu_i, if_neg (by omega), pu_i, if_neg (by omega), pu_i, if_neg (by omega), pu_i, if_pos ⟨rfl, rfl⟩]
      · rw [h45, h5, pu_i, if_neg (by omega), pu_i, if_pos ⟨rfl, rfl⟩]
      · rw [(r2 46 (by decide)).1, (f5 46 (by decide)).1]; exact h46 i hi
    obtain ⟨μ, m1, m2, m3, m4⟩ := m_nx hx (Nat.zero_le _) hS (by rw [h45, h5, pu_i, if_pos ⟨rfl, rfl⟩]; rfl) hk
    refine ⟨μ, m3, m4, (f5.tr (r2.wk (fun k q => Or.inr q))).tr m2.fr, ?_, ?_, ?_⟩
    · rw [m2.2.2 15 (by omega), h45, h5, pu_i, if_neg (by omega), pu_i, if_neg (by omega), pu_i, if_neg (by omega), pu_i, if_neg (by omega), pu_i, if_neg (by omega)]
    · rw [m2.2.2 2 (by omega), h45, h5, pu_i, if_neg (by omega), pu_i, if_neg (by omega), pu_i, if_pos ⟨rfl, rfl⟩]; rfl
    · have e3 : (ps_ui τ 45 0 0).1 45 2 = nI (a_l A) := by rw [pu_i, if_neg (by omega)]; exact h2
      unfold fX5_text
      rw [ps_let, ps_let, e3, ps_let, ps_let, ps_let, ← h5, r1, Option.bind_some, m1, Option.bind_some]
      rfl
  rcases hout with ⟨f, pl, a', τ, a1, a2, a3, a4, a5, a6, a7⟩ | ⟨a', g', τ, a1, a2, a3, a4, a5, a6, a7⟩
  · have fc : ps_fr (fun q => q = 36 ∨ q = 38) σ (ps_ui τ 36 1 0) := (c2.fr.tr a4.fr).tr (ps_fr_ui (Or.inl rfl))
    have e2 : (ps_ui τ 36 1 0).1 36 2 = nI f := by rw [pu_i, if_neg (by omega)]; exact a5
    have e3 : (ps_ui τ 36 1 0).1 36 3 = nI pl := by rw [pu_i, if_neg (by omega)]; exact a6
    have hc' : c_R (ps_ui τ 36 1 0) (A_txt A f) := c_txt hc fc (by rw [pu_i, if_pos ⟨rfl, rfl⟩]; rfl) e2
    have hm' : m_R (ps_ui τ 36 1 0) A := m_R_c hm (fc.wk (fun k q => by unfold c_own; omega))
    obtain ⟨μ, m1, m2, m3, m4, m5, m6⟩ := mstart (ps_ui τ 36 1 0) hm'.2.2.2.2.1 hm'.2.2.2.2.2.1
    obtain ⟨υ, u1, u2, u3, u4⟩ := a7 μ m1 m2
    have fm : ps_fr (fun q => q = 45 ∨ q = 48) (ps_ui τ 36 1 0) υ := m3.tr u2.fr
    refine ⟨-1 - nI pl, ps_ui τ 36 1 0, υ, ?_, ?_, b_both (σ := σ) (A := A) (A_txt_wf hw a2) hc' (fm.wk (fun k q => by unfold m_own; omega)) (m_txt hm' fm ?_ ?_ u3)⟩
    · unfold fX4_text
      rw [c1, a3 100000 (by omega), Option.bind_some, ps_let, ps_let, e2, if_neg (fun z => by have := (nI0_iff (by omega)).mp z; omega), e3]
    · rw [m6, u1 100000 (by omega), Option.bind_some]
      show fX5_text_J77 υ = _
      unfold fX5_text_J77
      rw [u4]
    · rw [u2.2.2 15 (by omega)]; exact m4
    · rw [u2.2.2 2 (by omega)]; exact m5
  · have fc : ps_fr (fun q => q = 36 ∨ q = 38) σ (ps_ui τ 36 1 0) := (c2.fr.tr a4.fr).tr (ps_fr_ui (Or.inl rfl))
    have e2 : (ps_ui τ 36 1 0).1 36 2 = nI 0 := by rw [pu_i, if_neg (by omega), a5]; exact c3
    have e4 : (ps_ui τ 36 1 0).1 36 4 = nI (g_n g') := by rw [pu_i, if_neg (by omega)]; exact a6.2.2.1
    have e5 : (ps_ui τ 36 1 0).2 36 5 = lN (g_pr (g_j g')) := a6.2.2.2.1
    have hc' : c_R (ps_ui τ 36 1 0) (A_txt A 0) := c_txt hc fc (by rw [pu_i, if_pos ⟨rfl, rfl⟩]; rfl) e2
    have hm' : m_R (ps_ui τ 36 1 0) A := m_R_c hm (fc.wk (fun k q => by unfold c_own; omega))
    have hf0 : ∀ r s, g_f g' r s = 0 := fun r s => by rw [a2]; rfl
    obtain ⟨β, b1, b2, b3⟩ := c_begin (σ := ps_ui τ 36 1 0) (g := g') (fun s hs => by rw [pu_i, if_neg (by omega)]; exact a6.2.2.2.2 s hs) hf0
    have hcβ : c_R (ps_ui β 22 0 0) (A_rst (A_txt A 0) g') := c_rst hc' b2 b3
    have fβ : ps_fr c_own (ps_ui τ 36 1 0) (ps_ui β 22 0 0) := (b2.wk (fun k q => by unfold c_own; omega)).tr (ps_fr_ui (by unfold c_own; omega))
    have hmβ : m_R (ps_ui β 22 0 0) A := m_R_c hm' fβ
    obtain ⟨μ, m1, m2, m3, m4, m5, m6⟩ := mstart (ps_ui β 22 0 0) hmβ.2.2.2.2.1 hmβ.2.2.2.2.2.1
    obtain ⟨υ, u1, u2, u3⟩ := a7 μ m1 m2
    obtain ⟨ω, w1, w2, w3⟩ := m_copy (σ := υ) (k0 := 48) (k2 := 47) (s0 := 0) (d0 := 0) (by decide) (by decide) (by decide) (by decide) (by decide)
    have ecp : ∀ j, j < 1289 → ω.1 47 (0 + j) = υ.1 48 (0 + j) := fun j hj => by
      have e0 : 0 + (0 + j - 0) = 0 + j := by omega
      rw [w3, if_pos (show 0 ≤ 0 + j ∧ 0 + j < 0 + 1289 by omega), e0]
    have hGω : m_G ω 47 0 g' := m_G_copy (c := 48) (o := 0) (c' := 47) (o' := 0) u3.2.2 ecp
    have fm : ps_fr (fun q => q = 45 ∨ q = 48) (ps_ui β 22 0 0) υ := m3.tr u2.fr
    have fall : ps_fr (fun q => q = 45 ∨ q = 47 ∨ q = 48) (ps_ui β 22 0 0) (ps_ui ω 45 15 0) := ((fm.wk (fun k q => by omega)).tr (w2.wk (fun k q => by omega))).tr (ps_fr_ui (by omega))
    have h45 : ∀ j, ω.1 45 j = υ.1 45 j := fun j => by rw [(w2 45 (by decide)).1]
    have hmω : m_R (ps_ui ω 45 15 0) (A_rst (A_txt A 0) g') := by
      obtain ⟨z1, z2, z3, z4, z5, z6, z7⟩ := hmβ
      refine ⟨m_G_ui hGω (by decide), by rw [pu_i, if_pos ⟨rfl, rfl⟩]; rfl, fun i hi => absurd hi (Nat.not_lt_zero _), fun i hi => ?_, fun i hi => absurd hi (Nat.not_lt_zero _), ?_, ?_⟩
      · obtain ⟨y1, y2⟩ := z4 i hi
        exact ⟨by rw [(fall 51 (by decide)).1]; exact y1, fun hb => (y2 hb).fr fall (by decide)⟩
      · rw [pu_i, if_neg (by omega), h45, u2.2.2 2 (by omega)]; exact m5
      · rw [pu_i, if_neg (by omega), h45]; exact u3.1.2
    refine ⟨nI a', ps_ui β 22 0 0, ps_ui ω 45 15 0, ?_, ?_, b_both (σ := σ) (A := A) (A_rst_wf (A_txt_wf hw (by decide)) a1) hcβ (fall.wk (fun k q => by unfold m_own; omega)) hmω⟩
    · unfold fX4_text
      rw [c1, a3 100000 (by omega), Option.bind_some, ps_let, ps_let, e2, if_pos (by decide), e4, e5, b1, Option.bind_some]
      rfl
    · rw [m6, u1 100000 (by omega), Option.bind_some]
      show ((fX5_copy 48 (nI 0) 47 (nI 0) υ).bind fun q17 => ps_let (ps_ui q17 45 15 0) fun σ18 => some (nI a', σ18)) = _
      rw [w1, Option.bind_some]
      rfl
