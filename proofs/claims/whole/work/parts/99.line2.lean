/-! text: sets and pairs -/
theorem m_G_48 {τ : ps_S} {a : gG} {s v : Nat} (h : m_G τ 48 0 a) (hs : s < 256) : m_G (ps_ui τ 48 (1 + s) (nI v)) 48 0 (g_wt a s v) := by
  obtain ⟨h1, h2, h3, h4⟩ := h
  refine ⟨by rw [pu_i, if_neg (by omega)]; exact h1, fun s' hs' => ?_, fun t ht => by rw [pu_i, if_neg (by omega)]; exact h3 t ht, fun r' s' hr' hs' => by rw [pu_i, if_neg (by omega)]; exact h4 r' s' hr' hs'⟩
  rw [pu_i]
  show _ = nI (if s' = s then v else g_w a s')
  by_cases e : s' = s
  · rw [if_pos (by omega), if_pos e]
  · rw [if_neg (by omega), if_neg e]; exact h2 s' hs'
theorem m_S_48 {τ : ps_S} {t : Nat → Nat} {L : Nat} {a : gG} {s v : Nat} (h : m_S τ t L a) (hs : s < 256) : m_S (ps_ui τ 48 (1 + s) (nI v)) t L (g_wt a s v) := ⟨⟨by rw [pu_i, if_neg (by omega)]; exact h.1.1, by rw [pu_i, if_neg (by omega)]; exact h.1.2⟩, fun i hi => by rw [pu_i, if_neg (by omega)]; exact h.2.1 i hi, m_G_48 h.2.2 hs⟩
theorem c_S_38 {τ : ps_S} {t : Nat → Nat} {L : Nat} {a : gG} {s v : Nat} (h : c_S τ t L a) (hs : s < 256) : c_S (ps_ui τ 38 s (nI v)) t L (g_wt a s v) := ⟨by rw [pu_i, if_neg (by omega)]; exact h.1, fun i hi => by rw [pu_i, if_neg (by omega)]; exact h.2.1 i hi, by rw [pu_i, if_neg (by omega)]; exact h.2.2.1, h.2.2.2.1, fun s' hs' => by
  rw [pu_i]
  show _ = nI (if s' = s then v else g_w a s')
  by_cases e : s' = s
  · rw [if_pos ⟨rfl, e⟩, if_pos e]
  · rw [if_neg (fun q => e q.2), if_neg e]; exact h.2.2.2.2 s' hs'⟩
theorem g_wt_wt (a : gG) (s v w : Nat) : g_wt (g_wt a s v) s w = g_wt a s w := by
  unfold g_wt
  refine Prod.ext rfl (Prod.ext (funext (fun s' => ?_)) rfl)
  show (if s' = s then w else (if s' = s then v else g_w a s')) = if s' = s then w else g_w a s'
  by_cases e : s' = s
  · rw [if_pos e, if_pos e]
  · rw [if_neg e, if_neg e, if_neg e]
theorem w_48 {σ : ps_S} {t : Nat → Nat} {L : Nat} {g : gG} (h : m_S σ t L g) {s : Nat} (hs : s < 256) : σ.1 48 (1 + s) = nI (g_w g s) := by
  have := h.2.2.2.1 s hs
  rwa [show 0 + 1 + s = 1 + s by omega] at this
theorem t_sets {σ : ps_S} {t : Nat → Nat} {L p : Nat} {g : gG} (hx : w_tp t L) (hp : p ≤ L) (hg : g_wf g) (hn : 0 < g_n g) (h : c_S σ t L g) (h9 : σ.1 36 9 = nI p) : t_body fX2_readSet fX5_readSet t L p g σ := by
  have h8 := hg.1
  have h2 := p2_le _ h8
  have hNN : g_N g = 2 ^ g_n g := g_N_pos (by omega)
  obtain ⟨κ, s, e, hk⟩ := w_tk_ex t hp
  obtain ⟨τ, t1, t2, t3, t4, t5⟩ := c_nx hx hp h h9 hk
  obtain ⟨f1, -, -, f4, f5, -, -⟩ := w_tk_f hp hk
  by_cases c : κ = 1
  · obtain ⟨k1, k2, k3⟩ := f4 (by omega) (by omega)
    obtain ⟨r, r1, r2⟩ := c_letters hx.1 hx.2 t3.2.1 t4.2.1 (t4.2.2 (by omega)) t3.2.2.1 h8 (by omega) k3 (f5 c)
    have mlet : ∀ μ, m_S μ t L g → m_Q μ t κ s e → ∃ r, fX5_letters μ = some r ∧ ((w_gd t (g_n g) s (e - s) ∧ r = nI (w_mm t s (e - s))) ∨ (¬ w_gd t (g_n g) s (e - s) ∧ r = -1)) := fun μ a b => m_letters hx.1 hx.2 a.2.1 b.2.1 (b.2.2.1 (by omega)) a.2.2.1 h8 (by omega) k3 (f5 c)
    rcases r2 with ⟨gd, hr⟩ | ⟨gd, hr⟩
    · subst hr
      have hm := mm_lt gd
      obtain ⟨m, hmm⟩ : ∃ m, m = w_mm t s (e - s) := ⟨_, rfl⟩
      rw [← hmm] at r1 hm
      have w38 := t3.2.2.2.2 m (by omega)
      have hwm := hg.2.1 m
      have mpre : ∀ σm, m_S σm t L g → σm.1 45 4 = nI p → ∃ μ, w_mr σm μ ∧ m_S μ t L g ∧ m_Q μ t κ s e ∧ fX5_readSet σm = (if nI (g_w g m) ≤ 0 then ((fX5_next (ps_ui μ 48 (1 + m) 1)).bind fun q6 => (if (q6.1 45 6) = (3 : Int32) then ((fX5_isIn (q6.1 45 7) (1 : Int32) (999 : Int32)).bind fun q7 => (if q7 = 0 then ((fX5_bad (2 : Int32) q6).bind fun q11 => (ps_cb q11.1 (some (q11.1, q11.2)))) else ((fX5_next (ps_ui q6 48 (1 + m) (q6.1 45 7))).bind fun q10 => some ((1 : Int32), q10)))) else some ((1 : Int32), q6))) else fX5_bad (nI 4) μ) := fun σm a b => by
        obtain ⟨μ, m1, m2, m3, m4⟩ := m_nx hx hp a b hk
        obtain ⟨r', r1', r2'⟩ := mlet μ m3 m4
        rcases r2' with ⟨-, hr'⟩ | ⟨ng, -⟩
        · subst hr'
          rw [← hmm] at r1'
          refine ⟨μ, m2, m3, m4, ?_⟩
          unfold fX5_readSet
          rw [m1, Option.bind_some, m4.1, if_pos ((mk_2 κ (by omega)).mpr c), r1', Option.bind_some, if_neg (nI_n1 (by omega))]
          have ok : ∀ {α : Type} {y : Option α}, ps_ck ((1 : Int32) + nI m) 1289 y = y := fun {_ _} => by rw [n1, nI_add]; exact pk_ok (by omega) (by decide)
          have cl : Int32.toNatClampNeg ((1 : Int32) + nI m) = 1 + m := by rw [n1, nI_add]; exact nI_clamp (by omega)
          rw [ok, ok, cl, w_48 m3 (by omega)]
          simp only [ps_let, ok, cl]
          rw [bd_cb]; rfl
        · exact absurd gd ng
      have cpre : fX2_readSet σ = (if nI (g_w g m) = 0 then ((fX2_nextToken (ps_ui τ 38 m 1)).bind fun q6 => (if (q6.1 36 7) = (2 : Int32) then ((fX2_numberRead q6).bind fun q8 => (if (1 : Int32) ≤ ((ps_ui q6 38 m q8).1 38 m) then ((fX2_nextToken (ps_ui q6 38 m q8)).bind fun q12 => w_sm q12) else fX2_blame (nI 2) (ps_ui q6 38 m q8))) else w_sm q6)) else fX2_blame (nI 4) τ) := by
        have ok : ∀ {α : Type} {y : Option α}, ps_ck (nI m) 256 y = y := fun {_ _} => pk_ok (by omega) (by decide)
        have cl : Int32.toNatClampNeg (nI m) = m := nI_clamp (by omega)
        unfold fX2_readSet
        rw [t1, Option.bind_some, t4.1, if_pos ((ck_1 κ (by omega)).mpr c), r1, Option.bind_some, if_neg (nI_n1 (by omega)), ok, ok, cl, w38]
        simp only [ps_let, ok, cl]
        rfl
      by_cases hz : g_w g m = 0
      · rw [if_pos ((nI0_iff (by omega)).mpr hz)] at cpre
        have hS5 : c_S (ps_ui τ 38 m 1) t L (g_wt g m 1) := c_S_38 (v := 1) t3 (by omega)
        obtain ⟨κ2, s2, e2, hk2⟩ := w_tk_ex t k3
        obtain ⟨ρ, p1, p2, p3, p4, p5⟩ := c_nx (p := e) hx k3 hS5 (by rw [pu_i, if_neg (by omega)]; exact t4.2.2 (by omega)) hk2
        obtain ⟨g1, -, -, g4, -, g6, -⟩ := w_tk_f k3 hk2
        have h52 : (ps_ui τ 38 m 1).1 36 2 = σ.1 36 2 := by rw [pu_i, if_neg (by omega)]; exact t5
        have fr1 : w_cr σ ρ := (t2.tr w_cr_38).tr p2
        rw [p1, Option.bind_some, p4.1] at cpre
        have mpre2 : ∀ σm, m_S σm t L g → σm.1 45 4 = nI p → ∃ ν, w_mr σm ν ∧ m_S ν t L (g_wt g m 1) ∧ m_Q ν t κ2 s2 e2 ∧ fX5_readSet σm = (if nI (w_mk κ2) = (3 : Int32) then ((fX5_isIn (ν.1 45 7) (1 : Int32) (999 : Int32)).bind fun q7 => (if q7 = 0 then fX5_bad (nI 2) ν else ((fX5_next (ps_ui ν 48 (1 + m) (ν.1 45 7))).bind fun q10 => some ((1 : Int32), q10)))) else some ((1 : Int32), ν)) := fun σm a b => by
          obtain ⟨μ, m2, m3, m4, m5⟩ := mpre σm a b
          have hS4 : m_S (ps_ui μ 48 (1 + m) 1) t L (g_wt g m 1) := m_S_48 (v := 1) m3 (by omega)
          obtain ⟨ν, v1, v2, v3, v4⟩ := m_nx hx k3 hS4 (by rw [pu_i, if_neg (by omega)]; exact m4.2.2.1 (by omega)) hk2
          refine ⟨ν, (m2.tr w_mr_48).tr v2, v3, v4, ?_⟩
          rw [m5, hz, if_pos (by decide), v1, Option.bind_some, v4.1, bd_cb]
          rfl
        by_cases c2 : κ2 = 2
        · obtain ⟨j1, j2, j3⟩ := g4 (by omega) (by omega)
          obtain ⟨j4, j5⟩ := g6 c2
          have num := c_number hx.1 hx.2 p3.2.1 p4.2.1 (p4.2.2 (by omega)) (by omega) j3 j4 j5
          have hnu := w_nu_le (t := t) (q := s2) (k := e2 - s2) (fun i a b => j5 i a (by omega))
          have h10 : 10 ^ (e2 - s2) ≤ 10 ^ 3 := Nat.pow_le_pow_right (by decide) (by omega)
          obtain ⟨v, hv⟩ : ∃ v, v = w_nu t s2 (e2 - s2) := ⟨_, rfl⟩
          rw [← hv] at num hnu
          have e38 : (ps_ui ρ 38 m (nI v)).1 38 m = nI v := by rw [pu_i, if_pos ⟨rfl, rfl⟩]
          rw [if_pos ((ck_2 κ2 (by omega)).mpr c2), num, Option.bind_some, e38] at cpre
          have hS6 : c_S (ps_ui ρ 38 m (nI v)) t L (g_wt g m v) := by
            have := c_S_38 (s := m) (v := v) p3 (by omega)
            rwa [g_wt_wt] at this
          have fr2 : w_cr σ (ps_ui ρ 38 m (nI v)) := fr1.tr w_cr_38
          by_cases d : 1 ≤ v
          · rw [if_pos (show (1 : Int32) ≤ nI v from nI_le d (by omega))] at cpre
            obtain ⟨κ3, s3, e3, hk3⟩ := w_tk_ex t j3
            obtain ⟨φ, q1, q2, q3, q4, q5⟩ := c_nx (p := e2) hx j3 hS6 (by rw [pu_i, if_neg (by omega)]; exact p4.2.2 (by omega)) hk3
            refine t_end (q := e2) hx (by omega) j3 (g_wt_wf hg (by omega) (by omega)) hn rfl (fr2.tr q2) ?_ q3 q4 hk3 ?_ (fun σm a b => ?_)
            · rw [q5, pu_i, if_neg (by omega), p5]; exact h52
            · rw [cpre, q1, Option.bind_some]
            · obtain ⟨ν, v2, v3, v4, v5⟩ := mpre2 σm a b
              have hS7 : m_S (ps_ui ν 48 (1 + m) (nI v)) t L (g_wt g m v) := by
                have := m_S_48 (s := m) (v := v) v3 (by omega)
                rwa [g_wt_wt] at this
              obtain ⟨ξ, x1, x2, x3, x4⟩ := m_nx hx j3 hS7 (by rw [pu_i, if_neg (by omega)]; exact v4.2.2.1 (by omega)) hk3
              refine ⟨ξ, ?_, (v2.tr w_mr_48).tr x2, x3, x4⟩
              rw [v5, if_pos ((mk_3 κ2 (by omega)).mpr c2), v4.2.2.2 c2, ← hv, nl_999, m_isIn_yes (show ¬ nI v < 1 from nI_nlt d (by omega)) (nI_nlt (by omega) (by omega)), Option.bind_some, if_neg (by decide), x1, Option.bind_some]
          · rw [if_neg (show ¬ (1 : Int32) ≤ nI v from nI_ge (show v < 1 by omega) (by decide))] at cpre
            refine t_fault (f := 2) (s := s2) (by omega) fr2 (by rw [pu_i, if_neg (by omega)]; exact p4.2.1) cpre (fun σm a b => ?_)
            obtain ⟨ν, v2, v3, v4, v5⟩ := mpre2 σm a b
            obtain ⟨υ, y1, y2, y3, y4⟩ := m_bd (f := 2) (by omega) v4 (Or.inr (by omega))
            refine ⟨υ, Or.inl ?_, v2.tr y2, y3, y4⟩
            rw [v5, if_pos ((mk_3 κ2 (by omega)).mpr c2), v4.2.2.2 c2, ← hv, m_isIn_no (Or.inl (show nI v < 1 from nI_lt (show v < 1 by omega) (by decide))), Option.bind_some, if_pos rfl, y1]
        · rw [if_neg (fun z => c2 ((ck_2 κ2 (by omega)).mp z))] at cpre
          refine t_end (q := e) hx (by omega) k3 (g_wt_wf hg (by omega) (by omega)) hn rfl fr1 (p5.trans h52) p3 p4 hk2 cpre (fun σm a b => ?_)
          obtain ⟨ν, v2, v3, v4, v5⟩ := mpre2 σm a b
          refine ⟨ν, ?_, v2, v3, v4⟩
          rw [v5, if_neg (fun z => c2 ((mk_3 κ2 (by omega)).mp z))]
      · rw [if_neg (fun z => hz ((nI0_iff (by omega)).mp z))] at cpre
        refine t_fault (f := 4) (s := s) (by omega) t2 t4.2.1 cpre (fun σm a b => ?_)
        obtain ⟨μ, m2, m3, m4, m5⟩ := mpre σm a b
        obtain ⟨υ, y1, y2, y3, y4⟩ := m_bd (f := 4) (by omega) m4 (Or.inr (by omega))
        refine ⟨υ, Or.inl ?_, m2.tr y2, y3, y4⟩
        rw [m5, if_neg (nI_nle (by omega) (by omega)), y1]
    · subst hr
      refine t_fault (f := 3) (s := s) (by omega) t2 t4.2.1 ?_ (fun σm a b => ?_)
      · unfold fX2_readSet
        rw [t1, Option.bind_some, t4.1, if_pos ((ck_1 κ (by omega)).mpr c), r1, Option.bind_some, if_pos rfl]
        exact bl_cb
      · obtain ⟨μ, m1, m2, m3, m4⟩ := m_nx hx hp a b hk
        obtain ⟨r', r1', r2'⟩ := mlet μ m3 m4
        rcases r2' with ⟨g', -⟩ | ⟨-, hr'⟩
        · exact absurd g' gd
        · subst hr'
          obtain ⟨υ, y1, y2, y3, y4⟩ := m_bd (f := 3) (by omega) m4 (Or.inr (by omega))
          refine ⟨υ, Or.inl ?_, m2.tr y2, y3, y4⟩
          unfold fX5_readSet
          rw [m1, Option.bind_some, m4.1, if_pos ((mk_2 κ (by omega)).mpr c), r1', Option.bind_some, if_pos rfl]
          exact bd_cb.trans y1
  · refine t_fault (f := 1) (s := s) (by omega) t2 t4.2.1 ?_ (fun σm a b => ?_)
    · unfold fX2_readSet
      rw [t1, Option.bind_some, t4.1, if_neg (fun z => c ((ck_1 κ (by omega)).mp z))]
      exact bl_cb
    · obtain ⟨μ, m1, m2, m3, m4⟩ := m_nx hx hp a b hk
      obtain ⟨υ, v1, v2, v3, v4⟩ := m_bd (f := 1) (by omega) m4 (Or.inl rfl)
      refine ⟨υ, Or.inl ?_, m2.tr v2, v3, v4⟩
      unfold fX5_readSet
      rw [m1, Option.bind_some, m4.1, if_neg (fun z => c ((mk_2 κ (by omega)).mp z))]
      exact bd_cb.trans v1
/-- pairs -/
theorem m_low : ∀ x, x < 256 → x ≠ 0 → fX5_low (nI x) = some (nI (g_lt x)) := by decide +kernel
theorem pr_or {j : Nat → Nat} {a b : Nat} (h : ∀ t, j t < 256) (ha : a < 8) (hb : b < 8) (hab : a ≠ b) (hs : (j a).testBit b = (j b).testBit a) : ((g_pr j &&& (2 ^ (a * 8 + b) ||| 2 ^ (b * 8 + a)) = 0) ↔ (j a).testBit b = false) ∧ ((j a).testBit b = false → g_pr j ||| (2 ^ (a * 8 + b) ||| 2 ^ (b * 8 + a)) = g_pr (g_tj j a b)) := by
  have e1 : (g_pr j).testBit (a * 8 + b) = (j a).testBit b := by rw [Nat.mul_comm a 8]; exact g_pr_tb h ha hb
  have e2 : (g_pr j).testBit (b * 8 + a) = (j b).testBit a := by rw [Nat.mul_comm b 8]; exact g_pr_tb h hb ha
  refine ⟨⟨fun q => ?_, fun q => ?_⟩, fun q => ?_⟩
  · have := congrArg (fun z => z.testBit (a * 8 + b)) q
    simp only [Nat.testBit_and, Nat.testBit_or, Nat.testBit_two_pow_self, Bool.true_or, Bool.and_true, Nat.zero_testBit] at this
    rw [← e1]; exact this
  · refine Nat.eq_of_testBit_eq (fun i => ?_)
    rw [Nat.testBit_and, Nat.testBit_or, p2_bit, p2_bit, Nat.zero_testBit]
    by_cases c1 : a * 8 + b = i
    · subst c1; rw [e1, q]; rfl
    · by_cases c2 : b * 8 + a = i
      · subst c2; rw [e2, ← hs, q]; rfl
      · rw [decide_eq_false c1, decide_eq_false c2]; simp
  · rw [← pr_turn h ha hb hab]
    refine Nat.eq_of_testBit_eq (fun i => ?_)
    rw [Nat.testBit_or, Nat.testBit_xor, Nat.testBit_or, p2_bit, p2_bit]
    by_cases c1 : a * 8 + b = i
    · subst c1; rw [e1, q]; simp
    · by_cases c2 : b * 8 + a = i
      · subst c2; rw [e2, ← hs, q]; simp
      · rw [decide_eq_false c1, decide_eq_false c2]; simp
theorem m_joins48 {σ : ps_S} {g : gG} {a b : Nat} (h : m_G σ 48 0 g) (hw : g_wf g) (ha : a < g_n g) (hb : b < g_n g) (hab : a ≠ b) : ∃ τ, fX5_joins 48 (nI a) (nI b) σ = some τ ∧ w_mr σ τ ∧ (∀ j, τ.1 45 j = σ.1 45 j) ∧ m_G τ 48 0 (g_jn g a b) := by
  have hn := hw.1
  have l48 : ps_ln 48 = 1289 := rfl
  have mj : ∀ t, t < 8 → σ.1 48 (257 + t) = nI (g_j g t) := fun t ht => by
    have := h.2.2.1 t ht
    rwa [show 0 + 257 + t = 257 + t by omega] at this
  unfold fX5_joins
  simp only [ps_let]
  rw [l48, nl_257, nI_add, nI_add, pk_ok (by omega) (by decide), pk_ok (by omega) (by decide), pk_ok (by omega) (by decide), pk_ok (by omega) (by decide), nI_clamp (by omega), nI_clamp (by omega), mj a (by omega), sh1' a (by omega), sh1' b (by omega), fb_xorI]
  have e1 : (ps_ui σ 48 (257 + a) (nI (g_j g a ^^^ 2 ^ b))).1 48 (257 + b) = nI (g_j g b) := by
    rw [pu_i, if_neg (by omega)]; exact mj b (by omega)
  rw [e1, fb_xorI]
  refine ⟨_, rfl, w_mr_48.tr w_mr_48, fun j => by rw [pu_i, if_neg (by omega), pu_i, if_neg (by omega)], ?_⟩
  obtain ⟨h1, h2, h3, h4⟩ := h
  refine ⟨by rw [pu_i, if_neg (by omega), pu_i, if_neg (by omega)]; exact h1, fun s hs => by rw [pu_i, if_neg (by omega), pu_i, if_neg (by omega)]; exact h2 s hs, fun t ht => ?_, fun r s hr hs => by rw [pu_i, if_neg (by omega), pu_i, if_neg (by omega)]; exact h4 r s hr hs⟩
  show _ = nI (g_tj (g_j g) a b t)
  unfold g_tj
  rw [pu_i, pu_i]
  by_cases ea : t = a
  · subst ea
    rw [if_neg (by omega), if_pos (by omega), if_pos rfl]
  · rw [if_neg ea]
    by_cases eb : t = b
    · subst eb
      rw [if_pos (by omega), if_pos rfl]
    · rw [if_neg (by omega), if_neg (by omega), if_neg eb]; exact h3 t ht
theorem t_prs {σ : ps_S} {t : Nat → Nat} {L p : Nat} {g : gG} (hx : w_tp t L) (hp : p ≤ L) (hg : g_wf g) (hn : 0 < g_n g) (h : c_S σ t L g) (h9 : σ.1 36 9 = nI p) : t_body fX2_readPair fX5_readPair t L p g σ := by
  have h8 := hg.1
  have h2 := p2_le _ h8
  obtain ⟨κ, s, e, hk⟩ := w_tk_ex t hp
  obtain ⟨τ, t1, t2, t3, t4, t5⟩ := c_nx hx hp h h9 hk
  obtain ⟨f1, -, -, f4, f5, -, -⟩ := w_tk_f hp hk
  by_cases c : κ = 1
  · obtain ⟨k1, k2, k3⟩ := f4 (by omega) (by omega)
    obtain ⟨r, r1, r2⟩ := c_letters hx.1 hx.2 t3.2.1 t4.2.1 (t4.2.2 (by omega)) t3.2.2.1 h8 (by omega) k3 (f5 c)
    have mlet : ∀ μ, m_S μ t L g → m_Q μ t κ s e → ∃ r, fX5_letters μ = some r ∧ ((w_gd t (g_n g) s (e - s) ∧ r = nI (w_mm t s (e - s))) ∨ (¬ w_gd t (g_n g) s (e - s) ∧ r = -1)) := fun μ a b => m_letters hx.1 hx.2 a.2.1 b.2.1 (b.2.2.1 (by omega)) a.2.2.1 h8 (by omega) k3 (f5 c)
    have cj36 : fX2_readPair_J36 τ = fX2_blame (nI 3) τ := bl_cb
    have f3 : fX2_readPair σ = fX2_blame (nI 3) τ → (∀ σm, m_S σm t L g → σm.1 45 4 = nI p → ∀ μ, fX5_next σm = some μ → m_S μ t L g → m_Q μ t κ s e → fX5_readPair σm = fX5_bad (nI 3) μ) → t_body fX2_readPair fX5_readPair t L p g σ := fun hc hmm => by
      refine t_fault (f := 3) (s := s) (by omega) t2 t4.2.1 hc (fun σm a b => ?_)
      obtain ⟨μ, m1, m2, m3, m4⟩ := m_nx hx hp a b hk
      obtain ⟨υ, y1, y2, y3, y4⟩ := m_bd (f := 3) (by omega) m4 (Or.inr (by omega))
      exact ⟨υ, Or.inl ((hmm σm a b μ m1 m3 m4).trans y1), m2.tr y2, y3, y4⟩
    have mj36 : ∀ μ, fX5_readPair_J36 μ = fX5_bad (nI 3) μ := fun μ => bd_cb
    rcases r2 with ⟨gd, hr⟩ | ⟨gd, hr⟩
    · subst hr
      have hm := mm_lt gd
      obtain ⟨m, hmm⟩ : ∃ m, m = w_mm t s (e - s) := ⟨_, rfl⟩
      rw [← hmm] at r1 hm
      have mlet2 : ∀ μ, m_S μ t L g → m_Q μ t κ s e → fX5_letters μ = some (nI m) := fun μ a b => by
        obtain ⟨r', r1', r2'⟩ := mlet μ a b
        rcases r2' with ⟨-, hr'⟩ | ⟨ng, -⟩
        · rw [r1', hr', hmm]
        · exact absurd gd ng
      have cpre : fX2_readPair σ = ((fJ6_bitCount_0f7a4 (nI m)).bind fun q5 => (if q5 = (2 : Int32) then ((fX4_leastThing (nI m)).bind fun q6 => ((fX4_leastThing (nI m &&& (nI m - (1 : Int32)))).bind fun q7 => (if (lg_cmp ((τ.2 36 5) &&& (((1 : Int64) <<< (Int32.toInt64 ((q6 * (8 : Int32)) + q7) &&& 63)) ||| ((1 : Int64) <<< (Int32.toInt64 ((q7 * (8 : Int32)) + q6) &&& 63)))) (0 : Int64)) = 0 then ((fX2_nextToken (ps_ul τ 36 5 ((τ.2 36 5) ||| (((1 : Int64) <<< (Int32.toInt64 ((q6 * (8 : Int32)) + q7) &&& 63)) ||| ((1 : Int64) <<< (Int32.toInt64 ((q7 * (8 : Int32)) + q6) &&& 63)))))).bind fun q10 => w_sm q10) else fX2_blame (nI 4) τ))) else fX2_blame (nI 3) τ)) := by
        unfold fX2_readPair
        rw [t1, Option.bind_some, t4.1, if_pos ((ck_1 κ (by omega)).mpr c), r1, Option.bind_some, if_neg (nI_n1 (by omega))]
        rfl
      have mpre : ∀ μ, ∀ σm, fX5_next σm = some μ → m_S μ t L g → m_Q μ t κ s e → fX5_readPair σm = ((fX5_bits (nI m)).bind fun q5 => (if q5 = (2 : Int32) then ((fX5_low (nI m)).bind fun q6 => ((fX5_low (nI m &&& (((1 : Int32) <<< (q6 &&& 31)) ^^^ (-1 : Int32)))).bind fun q7 => (ps_ck ((257 : Int32) + q6) 1289 (((fX5_has (μ.1 48 (Int32.toNatClampNeg ((257 : Int32) + q6))) q7).bind fun q9 => (if q9 = 0 then ((fX5_joins 48 q6 q7 μ).bind fun q10 => ((fX5_next q10).bind fun q11 => some ((1 : Int32), q11))) else fX5_bad (nI 4) μ)))))) else fX5_bad (nI 3) μ)) := fun μ σm m1 m3 m4 => by
        unfold fX5_readPair
        rw [m1, Option.bind_some, m4.1, if_pos ((mk_2 κ (by omega)).mpr c), mlet2 μ m3 m4, Option.bind_some, if_neg (nI_n1 (by omega)), mj36, bd_cb]
        rfl
      have hm256 : m < 256 := by omega
      rw [c_bits m hm256, Option.bind_some] at cpre
      have hbc := g_bc_le m
      by_cases b2 : g_bc m = 2
      · have h0 : m ≠ 0 := fun q => by rw [q, g_bc_0] at b2; omega
        obtain ⟨l1, l2, l3, l4, l5, -, l7⟩ := lt_ok m hm256 h0
        have hr0 : g_rs m ≠ 0 := fun q => by rw [q, g_bc_0] at l7; omega
        obtain ⟨k1', k2', -⟩ := lt_ok (g_rs m) (by omega) hr0
        have hrs : nI m &&& (nI m - 1) = nI (g_rs m) := by rw [n1, pk_sub (by omega), fa_and]; rfl
        obtain ⟨x, hxx⟩ : ∃ x, x = g_lt m := ⟨_, rfl⟩
        obtain ⟨y, hyy⟩ : ∃ y, y = g_lt (g_rs m) := ⟨_, rfl⟩
        have hmy : m.testBit y = true := by
          rw [hyy]
          have : (g_rs m).testBit (g_lt (g_rs m)) = true := k2'
          rw [← l5, Nat.testBit_xor] at this
          cases hq : m.testBit (g_lt (m ^^^ 2 ^ g_lt m)) with
          | true => rw [l5] at hq; exact hq
          | false =>
            rw [hq, p2_bit] at this
            have h3 : g_lt m = g_lt (m ^^^ 2 ^ g_lt m) := by simpa using this
            rw [← h3, l2] at hq
            exact absurd hq (by decide)
        have hxy : x ≠ y := fun q => by
          have h3 : (g_rs m).testBit y = true := by rw [hyy]; exact k2'
          rw [← l5, Nat.testBit_xor, p2_bit, hmy, ← hxx, q] at h3
          simp at h3
        have hxn : x < g_n g := by rw [hxx]; exact bit_in_lt hm l2
        have hyn : y < g_n g := bit_in_lt hm hmy
        have hj : ∀ t, g_j g t < 256 := fun t => by have := hg.2.2.2.1 t; omega
        obtain ⟨pr1, pr2⟩ := pr_or hj (show x < 8 by omega) (show y < 8 by omega) hxy (hg.2.2.2.2.2.1 x y)
        have hX : (((1 : Int64) <<< (Int32.toInt64 ((nI x * (8 : Int32)) + nI y) &&& 63)) ||| ((1 : Int64) <<< (Int32.toInt64 ((nI y * (8 : Int32)) + nI x) &&& 63))) = lN (2 ^ (x * 8 + y) ||| 2 ^ (y * 8 + x)) := by
          rw [show (1 : Int64) = lN 1 from rfl, nl_8, pk_mul, pk_mul, nI_add, nI_add, wb_shl _ (by omega), wb_shl _ (by omega), Nat.one_mul, Nat.one_mul, fb_orL]
        rw [if_pos (show nI (g_bc m) = 2 from congrArg nI b2), c_least m hm256 h0, Option.bind_some, hrs, c_least _ (by omega) hr0, Option.bind_some, ← hxx, ← hyy, hX, t3.2.2.2.1, fb_andL, fb_orL] at cpre
        have hlt64 : g_pr (g_j g) &&& (2 ^ (x * 8 + y) ||| 2 ^ (y * 8 + x)) < 2 ^ 64 := Nat.lt_of_le_of_lt Nat.and_le_left (g_pr_lt hj)
        have hzero : lg_cmp (lN (g_pr (g_j g) &&& (2 ^ (x * 8 + y) ||| 2 ^ (y * 8 + x)))) 0 = 0 ↔ (g_j g x).testBit y = false := by
          rw [lg_cmp_eq, ← pr1]
          constructor
          · intro q
            have := congrArg (fun z : Int64 => z.toBitVec.toNat) q
            simp only [lN_nat hlt64] at this
            exact this
          · intro q; rw [q]; rfl
        have mpre2 : ∀ σm, m_S σm t L g → σm.1 45 4 = nI p → ∃ μ, w_mr σm μ ∧ m_S μ t L g ∧ m_Q μ t κ s e ∧ fX5_readPair σm = (if (if (g_j g x).testBit y then (1 : Int32) else 0) = 0 then ((fX5_joins 48 (nI x) (nI y) μ).bind fun q10 => ((fX5_next q10).bind fun q11 => some ((1 : Int32), q11))) else fX5_bad (nI 4) μ) := fun σm a b => by
          obtain ⟨μ, m1, m2, m3, m4⟩ := m_nx hx hp a b hk
          refine ⟨μ, m2, m3, m4, ?_⟩
          have w48 : μ.1 48 (257 + x) = nI (g_j g x) := by
            have := m3.2.2.2.2.1 x (by omega)
            rwa [show 0 + 257 + x = 257 + x by omega] at this
          have hlow2 : nI m &&& (nI (2 ^ x) ^^^ -1) = nI (g_rs m) := by
            rw [df_int, hxx, df_xor (fun u hu => by
              rw [p2_bit] at hu
              have := of_decide_eq_true hu
              rw [← this]; exact l2), l5]
          rw [mpre μ σm m1 m3 m4, m_bits m hm256, Option.bind_some, if_pos (show nI (g_bc m) = 2 from congrArg nI b2), m_low m hm256 h0, Option.bind_some, ← hxx, sh1' x (by omega), hlow2, m_low _ (by omega) hr0, Option.bind_some, ← hyy, nl_257, nI_add, pk_ok (by omega) (by decide), nI_clamp (by omega), w48, m_has (hj x) (by omega), Option.bind_some]
        cases hb : (g_j g x).testBit y
        · rw [if_pos (hzero.mpr hb), pr2 hb] at cpre
          have hS5 : c_S (ps_ul τ 36 5 (lN (g_pr (g_tj (g_j g) x y)))) t L (g_jn g x y) := ⟨t3.1, t3.2.1, t3.2.2.1, by rw [pu_l, if_pos ⟨rfl, rfl⟩]; rfl, t3.2.2.2.2⟩
          obtain ⟨κ2, s2, e2, hk2⟩ := w_tk_ex t k3
          obtain ⟨ρ, p1, p2, p3, p4, p5⟩ := c_nx (p := e) hx k3 hS5 (t4.2.2 (by omega)) hk2
          refine t_end (q := e) hx (by omega) k3 (g_jn_wf hg hxn hyn hxy) hn rfl ((t2.tr w_cr_l).tr p2) (p5.trans t5) p3 p4 hk2 ?_ (fun σm a b => ?_)
          · rw [cpre, p1, Option.bind_some]
          · obtain ⟨μ, m2, m3, m4, m5⟩ := mpre2 σm a b
            obtain ⟨ν, n1', n2, n3, n4⟩ := m_joins48 m3.2.2 hg hxn hyn hxy
            have hSν : m_S ν t L (g_jn g x y) := ⟨⟨(n3 3).trans m3.1.1, (n3 8).trans m3.1.2⟩, fun i hi => by rw [n2.1 46 (by decide) (by decide)]; exact m3.2.1 i hi, n4⟩
            obtain ⟨ξ, x1, x2, x3, x4⟩ := m_nx hx k3 hSν ((n3 4).trans (m4.2.2.1 (by omega))) hk2
            refine ⟨ξ, ?_, (m2.tr n2).tr x2, x3, x4⟩
            rw [m5, hb, if_pos (by decide), n1', Option.bind_some, x1, Option.bind_some]
        · rw [if_neg (fun z => by rw [hzero.mp z] at hb; exact absurd hb (by decide))] at cpre
          refine t_fault (f := 4) (s := s) (by omega) t2 t4.2.1 cpre (fun σm a b => ?_)
          obtain ⟨μ, m2, m3, m4, m5⟩ := mpre2 σm a b
          obtain ⟨υ, y1, y2, y3, y4⟩ := m_bd (f := 4) (by omega) m4 (Or.inr (by omega))
          refine ⟨υ, Or.inl ?_, m2.tr y2, y3, y4⟩
          rw [m5, hb, if_neg (by decide), y1]
      · have hne : ¬ nI (g_bc m) = 2 := fun z => b2 ((nI_eq (by omega) (by decide)).mp z)
        refine f3 (by rw [cpre, if_neg hne]) (fun σm a b μ m1 m3 m4 => ?_)
        rw [mpre μ σm m1 m3 m4, m_bits m hm256, Option.bind_some, if_neg hne]
    · subst hr
      refine f3 ?_ (fun σm a b μ m1 m3 m4 => ?_)
      · unfold fX2_readPair
        rw [t1, Option.bind_some, t4.1, if_pos ((ck_1 κ (by omega)).mpr c), r1, Option.bind_some, if_pos rfl]
        exact cj36
      · obtain ⟨r', r1', r2'⟩ := mlet μ m3 m4
        rcases r2' with ⟨g', -⟩ | ⟨-, hr'⟩
        · exact absurd g' gd
        · subst hr'
          unfold fX5_readPair
          rw [m1, Option.bind_some, m4.1, if_pos ((mk_2 κ (by omega)).mpr c), r1', Option.bind_some, if_pos rfl, mj36]
  · refine t_fault (f := 1) (s := s) (by omega) t2 t4.2.1 ?_ (fun σm a b => ?_)
    · unfold fX2_readPair
      rw [t1, Option.bind_some, t4.1, if_neg (fun z => c ((ck_1 κ (by omega)).mp z))]
      exact bl_cb
    · obtain ⟨μ, m1, m2, m3, m4⟩ := m_nx hx hp a b hk
      obtain ⟨υ, v1, v2, v3, v4⟩ := m_bd (f := 1) (by omega) m4 (Or.inl rfl)
      refine ⟨υ, Or.inl ?_, m2.tr v2, v3, v4⟩
      unfold fX5_readPair
      rw [m1, Option.bind_some, m4.1, if_neg (fun z => c ((mk_2 κ (by omega)).mp z))]
      exact bd_cb.trans v1
