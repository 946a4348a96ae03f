/-! put, weigh -/
def g_put (a : gG) (r s v : Nat) : gG := (g_n a, g_w a, g_j a, fun r' s' => if r' = r ∧ s' = s then v else g_f a r' s')
def g_wt (a : gG) (s v : Nat) : gG := (g_n a, fun s' => if s' = s then v else g_w a s', g_j a, g_f a)
theorem g_N_put {a : gG} {r s v : Nat} : g_N (g_put a r s v) = g_N a := rfl
theorem N_lt {a : gG} {s : Nat} (h : s < g_N a) : ¬ (g_n a = 0 ∨ 2 ^ g_n a ≤ s) := by
  unfold g_N at h
  split at h
  · omega
  · intro q
    omega
theorem g_put_wf {a : gG} {r s v : Nat} (h : g_wf a) (hs : s < g_N a) (hv : v < g_P) : g_wf (g_put a r s v) := by
  obtain ⟨w1, w2, w3, w4, w5, w6, w7, w8, w9⟩ := h
  refine ⟨w1, w2, w3, w4, w5, w6, w7, fun r' s' => ?_, fun r' s' h' => ?_⟩
  · show (if r' = r ∧ s' = s then v else g_f a r' s') < g_P
    split
    · exact hv
    · exact w8 r' s'
  · show (if r' = r ∧ s' = s then v else g_f a r' s') = 0
    rw [if_neg (fun q => by rw [q.2] at h'; exact N_lt hs h')]
    exact w9 r' s' h'
theorem g_wt_wf {a : gG} {s v : Nat} (h : g_wf a) (hs : s < g_N a) (hv : v ≤ 999) : g_wf (g_wt a s v) := by
  obtain ⟨w1, w2, w3, w4, w5, w6, w7, w8, w9⟩ := h
  refine ⟨w1, fun s' => ?_, fun s' h' => ?_, w4, w5, w6, w7, w8, w9⟩
  · show (if s' = s then v else g_w a s') ≤ 999
    split
    · exact hv
    · exact w2 s'
  · show (if s' = s then v else g_w a s') = 0
    rw [if_neg (fun q => by rw [q] at h'; exact N_lt hs h')]
    exact w3 s' h'
theorem c_G_put {τ : ps_S} {a : gG} {r s v : Nat} (h : c_G τ 1 a) (hr : r < 4) (hs : s < 256) : c_G (ps_ui τ (2 + 1 + r) s (nI v)) 1 (g_put a r s v) := by
  obtain ⟨h1, h2, h3, h4⟩ := h
  refine ⟨by rw [pu_i, if_neg (by omega)]; exact h1, h2, fun s' hs' => by rw [pu_i, if_neg (by omega)]; exact h3 s' hs', fun r' s' hr' hs' => ?_⟩
  rw [pu_i]
  show _ = nI (if r' = r ∧ s' = s then v else g_f a r' s')
  by_cases e : r' = r ∧ s' = s
  · rw [if_pos (by omega), if_pos e]
  · rw [if_neg (by omega), if_neg e]; exact h4 r' s' hr' hs'
theorem c_G_wt {τ : ps_S} {a : gG} {s v : Nat} (h : c_G τ 1 a) (hs : s < 256) : c_G (ps_ui τ 7 s (nI v)) 1 (g_wt a s v) := by
  obtain ⟨h1, h2, h3, h4⟩ := h
  refine ⟨by rw [pu_i, if_neg (by omega)]; exact h1, h2, fun s' hs' => ?_, fun r' s' hr' hs' => by rw [pu_i, if_neg (by omega)]; exact h4 r' s' hr' hs'⟩
  rw [pu_i]
  show _ = nI (if s' = s then v else g_w a s')
  by_cases e : s' = s
  · rw [if_pos (by omega), if_pos e]
  · rw [if_neg (by omega), if_neg e]; exact h3 s' hs'
theorem m_G_put {τ : ps_S} {a : gG} {r s v : Nat} (h : m_G τ 47 0 a) (hr : r < 4) (hs : s < 256) : m_G (ps_ui τ 47 (265 + 256 * r + s) (nI v)) 47 0 (g_put a r s v) := by
  obtain ⟨h1, h2, h3, h4⟩ := h
  refine ⟨by rw [pu_i, if_neg (by omega)]; exact h1, fun s' hs' => by rw [pu_i, if_neg (by omega)]; exact h2 s' hs', fun t ht => by rw [pu_i, if_neg (by omega)]; exact h3 t ht, fun r' s' hr' hs' => ?_⟩
  rw [pu_i]
  show _ = nI (if r' = r ∧ s' = s then v else g_f a r' s')
  by_cases e : r' = r ∧ s' = s
  · rw [if_pos (by omega), if_pos e]
  · rw [if_neg (by omega), if_neg e]; exact h4 r' s' hr' hs'
theorem m_G_wt {τ : ps_S} {a : gG} {s v : Nat} (h : m_G τ 47 0 a) (hs : s < 256) : m_G (ps_ui τ 47 (1 + s) (nI v)) 47 0 (g_wt a s v) := by
  obtain ⟨h1, h2, h3, h4⟩ := h
  refine ⟨by rw [pu_i, if_neg (by omega)]; exact h1, fun s' hs' => ?_, fun t ht => by rw [pu_i, if_neg (by omega)]; exact h3 t ht, fun r' s' hr' hs' => by rw [pu_i, if_neg (by omega)]; exact h4 r' s' hr' hs'⟩
  rw [pu_i]
  show _ = nI (if s' = s then v else g_w a s')
  by_cases e : s' = s
  · rw [if_pos (by omega), if_pos e]
  · rw [if_neg (by omega), if_neg e]; exact h2 s' hs'
theorem g_chg_put {a : gG} {r s v : Nat} : g_chg r a (g_put a r s v) := ⟨rfl, fun _ _ _ => rfl, fun r' s' _ _ hne => by
  show (if r' = r ∧ s' = s then v else g_f a r' s') = _
  rw [if_neg (fun q => hne q.1)]⟩
theorem g_chg_wt {a : gG} {s v : Nat} : g_chg 4 a (g_wt a s v) := ⟨rfl, fun h => absurd rfl h, fun _ _ _ _ _ => rfl⟩
theorem c_G_acts {σ τ : ps_S} {a : gG} (h : c_G σ 1 a) (hf : ps_fr acts_own σ τ) : c_G τ 1 a := h.fr hf (fun k _ _ q => by unfold acts_own at q; omega)
theorem acts_c {σ τ : ps_S} (hf : ps_fr acts_own σ τ) : ps_fr c_own σ τ := hf.wk (fun k q => by unfold acts_own at q; unfold c_own; omega)
/-- both sides made the same change -/
theorem b_both {σ τ υ : ps_S} {A A' : gA} (hw : a_wf A') (hc : c_R τ A') (hf : ps_fr m_own τ υ) (hm : m_R υ A') : b_R υ := ⟨A', hw, c_R_m hc hf, hm⟩
theorem snap_m {σ τ : ps_S} (h : ps_fr (fun q => q = 45 ∨ q = 50) σ τ) : ps_fr m_own σ τ := h.wk (fun k q => by unfold m_own; omega)
/-- call 8: put -/
theorem op_put {σ : ps_S} (x y v : Int32) (h : b_R σ) : ∃ (r : Int32) (τ υ : ps_S), fX4_put x y v σ = some (r, τ) ∧ fX5_put x y v τ = some (r, υ) ∧ b_R υ := by
  obtain ⟨A, hw, hc, hm⟩ := h
  have hm' := thr_R hm
  have hN := g_N_le hw.1
  rcases row_cases (a_g A) x with hx | ⟨hn, r, hr, rfl⟩
  · refine ⟨-1, σ, thr σ, ?_, ?_, b_keep hw hc hm' (thr_fr σ)⟩
    · unfold fX4_put
      rw [c_hasRow_no hc.1 hw.1 hx]; rfl
    · unfold fX5_put
      simp only [ps_let]
      rw [m_isRow_no hm'.1 hw.1 hx]; rfl
  · rcases set_cases (a_g A) hw.1 y with hy | ⟨s, hs, rfl⟩
    · refine ⟨-1, σ, thr σ, ?_, ?_, b_keep hw hc hm' (thr_fr σ)⟩
      · unfold fX4_put
        rw [c_hasRow_yes hc.1 hw.1 hr hn, Option.bind_some, if_neg (by decide), c_hasSet_no hc.1 hw.1 hy]; rfl
      · unfold fX5_put
        simp only [ps_let]
        rw [m_isRow_yes hm'.1 hw.1 hr hn, Option.bind_some, if_neg (by decide), m_isSet_no hm'.1 hw.1 hy]; rfl
    · obtain ⟨τ, t1, t2, t3⟩ := c_keepLine hw hc (l0 := r) (by omega)
      have hd : g_red v.toInt64.toInt < g_P := g_red_lt _
      have hwf : g_wf (g_put (a_g A) r s (g_red v.toInt64.toInt)) := g_put_wf hw.1 hs hd
      have hc2 := c_G_put (v := g_red v.toInt64.toInt) (c_G_acts hc.1 t2) hr (show s < 256 by omega)
      have f2 : ps_fr (fun k => k = 2 + 1 + r) τ (ps_ui τ (2 + 1 + r) s (nI (g_red v.toInt64.toInt))) := ps_fr_ui rfl
      have hcR := c_R_push hc t2 (t3 _ g_chg_put) f2 (fun k _ _ q => by omega) hc2
      have fc : ps_fr c_own σ (ps_ui τ (2 + 1 + r) s (nI (g_red v.toInt64.toInt))) := (acts_c t2).tr (f2.wk (fun k q => by unfold c_own; omega))
      have hm2 := thr_R (m_R_c hm fc)
      generalize hυ : ps_ui τ (2 + 1 + r) s (nI (g_red v.toInt64.toInt)) = υ at hcR fc hm2
      obtain ⟨ω, s1, s2, s3, s4, s5⟩ := m_snap hw hm2
      have hm3 := m_G_put (v := g_red v.toInt64.toInt) (hm2.1.fr s2 (by decide)) hr (show s < 256 by omega)
      refine ⟨nI (g_red v.toInt64.toInt), υ, ps_ui ω 47 (265 + 256 * r + s) (nI (g_red v.toInt64.toInt)), ?_, ?_, b_both (σ := σ) (A := A) (A_push_wf hw hwf) hcR (((thr_fr υ).tr (snap_m s2)).tr (m_own_ui (by decide))) (m_R_push hm2 s2 s3 s4 s5 (P := fun k => k = 47) (ps_fr_ui rfl) (fun k _ _ h => h) hm3)⟩
      · unfold fX4_put
        simp only [ps_let]
        rw [c_hasRow_yes hc.1 hw.1 hr hn, Option.bind_some, if_neg (by decide), c_hasSet_yes hc.1 hw.1 hs, Option.bind_some, if_neg (by decide), t1, Option.bind_some, pk_ok (by omega) (by decide), p_reduce, Option.bind_some, pk_ok (by omega) (by decide), pk_ok (by omega) (by decide), pk_ok (by omega) (by decide), nI_clamp (by omega), nI_clamp (by omega), hυ, ← hυ, pu_i, if_pos ⟨rfl, rfl⟩]
      · unfold fX5_put
        simp only [ps_let]
        rw [m_isRow_yes hm2.1 hw.1 hr hn, Option.bind_some, if_neg (by decide), m_isSet_yes hm2.1 hw.1 hs, Option.bind_some, if_neg (by decide), s1, Option.bind_some, p_rest, Option.bind_some]
        have e : ((265 : Int32) + ((256 : Int32) * nI r)) + nI s = nI (265 + 256 * r + s) := by
          rw [nl_265, nl_256, pk_mul, nI_add, nI_add]
        rw [e, pk_ok (by omega) (by decide), nI_clamp (by omega), m_numberOf hm3 hr (by omega), Option.bind_some]
        show some (nI (if r = r ∧ s = s then _ else _), _) = _
        rw [if_pos ⟨rfl, rfl⟩]
/-- call 25: weigh -/
theorem op_weigh {σ : ps_S} (x y : Int32) (h : b_R σ) : ∃ (r : Int32) (τ υ : ps_S), fX4_weigh x y σ = some (r, τ) ∧ fX5_weigh x y τ = some (r, υ) ∧ b_R υ := by
  obtain ⟨A, hw, hc, hm⟩ := h
  have hm' := thr_R hm
  have hN := g_N_le hw.1
  rcases set_cases (a_g A) hw.1 x with hx | ⟨s, hs, rfl⟩
  · refine ⟨-1, σ, thr σ, ?_, ?_, b_keep hw hc hm' (thr_fr σ)⟩
    · unfold fX4_weigh
      rw [c_hasSet_no hc.1 hw.1 hx]; rfl
    · unfold fX5_weigh
      simp only [ps_let]
      rw [m_isSet_no hm'.1 hw.1 hx]; rfl
  · by_cases ey : y < 0 ∨ nI 999 < y
    · refine ⟨-1, σ, thr σ, ?_, ?_, b_keep hw hc hm' (thr_fr σ)⟩
      · unfold fX4_weigh
        rw [c_hasSet_yes hc.1 hw.1 hs, Option.bind_some, if_neg (by decide), nl_999]
        by_cases e : y < 0
        · rw [if_pos e]
        · rw [if_neg e, if_pos (ey.resolve_left e)]
      · unfold fX5_weigh
        simp only [ps_let]
        rw [m_isSet_yes hm'.1 hw.1 hs, Option.bind_some, if_neg (by decide), nl_999, m_isIn_no ey]; rfl
    · have ey1 : ¬ y < 0 := fun q => ey (Or.inl q)
      have ey2 : ¬ nI 999 < y := fun q => ey (Or.inr q)
      obtain ⟨w, hw31, rfl⟩ := nI_of ey1
      have hw9 : w ≤ 999 := by
        rw [nI_ltI (by decide) hw31] at ey2
        omega
      have hws := hw.1.2.1 s
      have em : (thr σ).1 47 (1 + s) = nI (g_w (a_g A) s) := by
        have := hm'.1.2.1 s (by omega)
        rw [Nat.zero_add] at this
        exact this
      by_cases ew : g_w (a_g A) s = w
      · refine ⟨-1, σ, thr σ, ?_, ?_, b_keep hw hc hm' (thr_fr σ)⟩
        · unfold fX4_weigh
          rw [c_hasSet_yes hc.1 hw.1 hs, Option.bind_some, if_neg (by decide), if_neg ey1, nl_999, if_neg ey2, nl_4, pk_ok (by decide) (by decide), pk_ok (by omega) (by decide), nI_clamp (by decide), nI_clamp (by omega), if_pos]
          rw [show 2 + 1 + 4 = 1 + 6 from rfl, hc.1.2.2.1 s (by omega), ew]
        · unfold fX5_weigh
          simp only [ps_let]
          rw [m_isSet_yes hm'.1 hw.1 hs, Option.bind_some, if_neg (by decide), nl_999, m_isIn_yes ey1 ey2, Option.bind_some, if_neg (by decide), n1, nI_add, pk_ok (by omega) (by decide), nI_clamp (by omega), if_pos]
          rw [em, ew]
      · obtain ⟨τ, t1, t2, t3⟩ := c_keepLine hw hc (l0 := 4) (by omega)
        have hwf : g_wf (g_wt (a_g A) s w) := g_wt_wf hw.1 hs hw9
        have hc2 := c_G_wt (v := w) (c_G_acts hc.1 t2) (show s < 256 by omega)
        have f2 : ps_fr (fun k => k = 7) τ (ps_ui τ 7 s (nI w)) := ps_fr_ui rfl
        have hcR := c_R_push hc t2 (t3 _ g_chg_wt) f2 (fun k _ _ q => by omega) hc2
        have fc : ps_fr c_own σ (ps_ui τ 7 s (nI w)) := (acts_c t2).tr (f2.wk (fun k q => by unfold c_own; omega))
        have hm2 := thr_R (m_R_c hm fc)
        generalize hυ : ps_ui τ 7 s (nI w) = υ at hcR fc hm2
        obtain ⟨ω, s1, s2, s3, s4, s5⟩ := m_snap hw hm2
        have hmω := hm2.1.fr s2 (by decide)
        have hm3 := m_G_wt (v := w) hmω (show s < 256 by omega)
        have em2 : ∀ ρ : ps_S, m_G ρ 47 0 (a_g A) → ρ.1 47 (1 + s) = nI (g_w (a_g A) s) := fun ρ hρ => by
          have := hρ.2.1 s (by omega)
          rw [Nat.zero_add] at this
          exact this
        have ne : ¬ nI (g_w (a_g A) s) = nI w := fun q => ew ((nI_eq (by omega) hw31).mp q)
        refine ⟨nI (g_w (a_g A) s), υ, ps_ui ω 47 (1 + s) (nI w), ?_, ?_, b_both (σ := σ) (A := A) (A_push_wf hw hwf) hcR (((thr_fr υ).tr (snap_m s2)).tr (m_own_ui (by decide))) (m_R_push hm2 s2 s3 s4 s5 (P := fun k => k = 47) (ps_fr_ui rfl) (fun k _ _ h => h) hm3)⟩
        · unfold fX4_weigh
          simp only [ps_let]
          rw [c_hasSet_yes hc.1 hw.1 hs, Option.bind_some, if_neg (by decide), if_neg ey1, nl_999, if_neg ey2, nl_4, pk_ok (by decide) (by decide), pk_ok (by omega) (by decide), nI_clamp (by decide), nI_clamp (by omega)]
          rw [show 2 + 1 + 4 = 1 + 6 from rfl, hc.1.2.2.1 s (by omega), if_neg ne, pk_ok (by decide) (by decide), pk_ok (by omega) (by decide), t1, Option.bind_some, pk_ok (by decide) (by decide), pk_ok (by omega) (by decide)]
          rw [show 1 + 6 = 7 from rfl, hυ]
        · unfold fX5_weigh
          simp only [ps_let]
          rw [m_isSet_yes hm2.1 hw.1 hs, Option.bind_some, if_neg (by decide), nl_999, m_isIn_yes ey1 ey2, Option.bind_some, if_neg (by decide), n1, nI_add, pk_ok (by omega) (by decide), nI_clamp (by omega), em2 _ hm2.1, if_neg ne, s1, Option.bind_some, pk_ok (by omega) (by decide), pk_ok (by omega) (by decide), em2 _ hmω]
