/-! the calls, one by one: end, fault, weight, joined, at -/
theorem c_hasRow_no {σ : ps_S} {a : gG} {x : Int32} (h : c_G σ 1 a) (hw : g_wf a) (hx : x < 0 ∨ nI 4 ≤ x ∨ g_n a = 0) : fX1_hasRow x σ = some 0 := by
  unfold fX1_hasRow
  rw [h.1, nl_4]
  by_cases e : x < 0
  · rw [if_pos e]
  · rw [if_neg e]
    by_cases e2 : nI 4 ≤ x
    · rw [if_pos e2]
    · have e3 : g_n a = 0 := (hx.resolve_left e).resolve_left e2
      rw [if_neg e2, if_pos (by rw [e3]; decide)]
theorem c_hasRow_yes {σ : ps_S} {a : gG} {r : Nat} (h : c_G σ 1 a) (hw : g_wf a) (hr : r < 4) (hn : g_n a ≠ 0) : fX1_hasRow (nI r) σ = some 1 := by
  have h8 := hw.1
  unfold fX1_hasRow
  rw [h.1, nl_4, if_neg (nI_pos (by omega)), if_neg (nI_ge hr (by decide)), if_neg (nI_nle (by omega) (by omega))]
theorem m_isRow_no {σ : ps_S} {a : gG} {x : Int32} (h : m_G σ 47 0 a) (hw : g_wf a) (hx : x < 0 ∨ nI 4 ≤ x ∨ g_n a = 0) : fX5_isRow x σ = some 0 := by
  have hn := hw.1
  unfold fX5_isRow
  rw [m_things h, Option.bind_some]
  by_cases e : g_n a = 0
  · rw [if_pos (by rw [e]; decide)]
  · rw [if_neg (nI_nle (by omega) (by omega)), m_isIn_no, Option.bind_some, if_pos rfl]
    by_cases e0 : x < 0
    · exact Or.inl e0
    · exact Or.inr (lt_of_le (n := 4) (by decide) (by decide) ((hx.resolve_left e0).resolve_right e) e0)
theorem m_isRow_yes {σ : ps_S} {a : gG} {r : Nat} (h : m_G σ 47 0 a) (hw : g_wf a) (hr : r < 4) (hn : g_n a ≠ 0) : fX5_isRow (nI r) σ = some 1 := by
  have h8 := hw.1
  unfold fX5_isRow
  rw [m_things h, Option.bind_some, if_neg (nI_nle (by omega) (by omega)), nl_3, m_isIn_yes (nI_pos (by omega)) (nI_nlt (by omega) (by omega)), Option.bind_some, if_neg (by decide)]
theorem row_cases (a : gG) (x : Int32) : (x < 0 ∨ nI 4 ≤ x ∨ g_n a = 0) ∨ (g_n a ≠ 0 ∧ ∃ r, r < 4 ∧ x = nI r) := by
  by_cases e : g_n a = 0
  · exact Or.inl (Or.inr (Or.inr e))
  · rcases n_cases x 4 (by decide) with h | h | h
    · exact Or.inl (Or.inl h)
    · exact Or.inl (Or.inr (Or.inl h.1))
    · exact Or.inr ⟨e, h⟩
theorem set_cases (a : gG) (hw : g_wf a) (x : Int32) : (x < 0 ∨ nI (g_N a) ≤ x) ∨ ∃ s, s < g_N a ∧ x = nI s := by
  have hN := g_N_le hw
  rcases n_cases x (g_N a) (by omega) with h | h | h
  · exact Or.inl (Or.inl h)
  · exact Or.inl (Or.inr h.1)
  · exact Or.inr h
theorem thing_cases (a : gG) (hw : g_wf a) (x : Int32) : (x < 0 ∨ nI (g_n a) ≤ x) ∨ ∃ t, t < g_n a ∧ x = nI t := by
  have hN := hw.1
  rcases n_cases x (g_n a) (by omega) with h | h | h
  · exact Or.inl (Or.inl h)
  · exact Or.inl (Or.inr h.1)
  · exact Or.inr h
theorem m_numberOf {σ : ps_S} {a : gG} {r s : Nat} (h : m_G σ 47 0 a) (hr : r < 4) (hs : s < 256) : fX5_numberOf (nI r) (nI s) σ = some (nI (g_f a r s)) := by
  unfold fX5_numberOf
  have e : ((265 : Int32) + ((256 : Int32) * nI r)) + nI s = nI (265 + 256 * r + s) := by
    rw [show (265 : Int32) = nI 265 from rfl, show (256 : Int32) = nI 256 from rfl, pk_mul, nI_add, nI_add]
  rw [e, pk_ok (by omega) (by decide), nI_clamp (by omega)]
  have := h.2.2.2 r s hr hs
  rw [Nat.zero_add] at this
  rw [this]
/-- thrown is 0 -/
abbrev thr (σ : ps_S) : ps_S := ps_ui σ 45 0 0
theorem m_own_ui {σ : ps_S} {k j : Nat} {v : Int32} (h : 45 ≤ k ∧ k < 59) : ps_fr m_own σ (ps_ui σ k j v) := ps_fr_ui h
theorem thr_fr (σ : ps_S) : ps_fr m_own σ (thr σ) := m_own_ui (by decide)
theorem m_G_ui {σ : ps_S} {c o k j : Nat} {v : Int32} {a : gG} (h : m_G σ c o a) (hk : c ≠ k) : m_G (ps_ui σ k j v) c o a := h.fr (P := fun q => q = k) (ps_fr_ui rfl) hk
theorem m_R_45 {σ : ps_S} {A : gA} {j : Nat} {v : Int32} (h : m_R σ A) (h1 : j ≠ 15) (h2 : j ≠ 2) (h3 : j ≠ 8) : m_R (ps_ui σ 45 j v) A := by
  obtain ⟨q1, q2, q3, q4, q5, q6, q7⟩ := h
  refine ⟨m_G_ui q1 (by decide), ?_, fun i hi => m_G_ui (q3 i hi) (by decide), fun i hi => ⟨?_, fun hb => m_G_ui ((q4 i hi).2 hb) (by decide)⟩, fun i hi => ?_, ?_, ?_⟩
  · rw [pu_i, if_neg (by omega)]; exact q2
  · rw [pu_i, if_neg (by omega)]; exact (q4 i hi).1
  · rw [pu_i, if_neg (by omega)]; exact q5 i hi
  · rw [pu_i, if_neg (by omega)]; exact q6
  · rw [pu_i, if_neg (by omega)]; exact q7
theorem thr_R {σ : ps_S} {A : gA} (h : m_R σ A) : m_R (thr σ) A := m_R_45 h (by decide) (by decide) (by decide)
theorem c_R_m {σ τ : ps_S} {A : gA} (h : c_R σ A) (hf : ps_fr m_own σ τ) : c_R τ A := h.fr hf (fun k hk q => by have := q.1; omega)
theorem m_R_c {σ τ : ps_S} {A : gA} (h : m_R σ A) (hf : ps_fr c_own σ τ) : m_R τ A := h.fr hf (fun k hk _ q => by have : k < 45 := q; omega)
/-- the script's places of a call -/
def r_in (L : Nat) (x : Int32) : Prop := vp_in x L ∧ vp_in (x + 1) L ∧ vp_in (x + 2) L ∧ vp_in (x + 3) L ∧ vp_in (x + 4) L ∧ vp_in (x + 5) L
/-- a call that changes nothing of what is held -/
theorem b_keep {σ τ : ps_S} {A : gA} (hw : a_wf A) (hc : c_R σ A) (hm : m_R τ A) (hf : ps_fr m_own σ τ) : b_R τ := ⟨A, hw, c_R_m hc hf, hm⟩
/-- mates -/
theorem g_pr_lt {j : Nat → Nat} (h : ∀ t, j t < 256) : g_pr j < 2 ^ 64 := by
  unfold g_pr
  have := h 0; have := h 1; have := h 2; have := h 3; have := h 4; have := h 5; have := h 6; have := h 7
  omega
theorem g_pr_div {j : Nat → Nat} (h : ∀ t, j t < 256) : ∀ t, t < 8 → g_pr j / 2 ^ (t * 8) % 256 = j t := by
  intro t ht
  have h0 := h 0; have h1 := h 1; have h2 := h 2; have h3 := h 3; have h4 := h 4; have h5 := h 5; have h6 := h 6; have h7 := h 7
  unfold g_pr
  rcases (show t = 0 ∨ t = 1 ∨ t = 2 ∨ t = 3 ∨ t = 4 ∨ t = 5 ∨ t = 6 ∨ t = 7 by omega) with rfl | rfl | rfl | rfl | rfl | rfl | rfl | rfl <;> simp <;> omega
theorem j_lt {a : gG} (hw : g_wf a) (t : Nat) : g_j a t < 256 := Nat.lt_of_lt_of_le (hw.2.2.2.1 t) (p2_le _ hw.1)
theorem c_mates_of {v : Int64} {j : Nat → Nat} (hv : v = lN (g_pr j)) (hj : ∀ t, j t < 256) {t : Nat} (ht : t < 8) : (Int64.toInt32 ((v.toUInt64 >>> ((Int32.toInt64 (nI t * (8 : Int32))).toUInt64 &&& Int64.toUInt64 63)).toInt64)) &&& (255 : Int32) = nI (j t) := by
  rw [hv, nl_8, pk_mul, wb_shr (g_pr_lt hj) (by omega), lN_i, show (255 : Int32) = nI (2 ^ 8 - 1) from rfl, fa_mask, show 2 ^ 8 = 256 from rfl, g_pr_div hj t ht]
theorem c_mates {σ : ps_S} {a : gG} {t : Nat} (h : c_G σ 1 a) (hw : g_wf a) (ht : t < 8) : fX1_mates (nI t) σ = some (nI (g_j a t)) := by
  unfold fX1_mates
  rw [c_mates_of h.2.1 (j_lt hw) ht]
theorem vin {j n : Nat} (h : j < n) (hn : n < 2 ^ 31) : vp_in (nI j) n := vp_in_nI h hn
/-- call 1: end -/
def A_len (A : gA) (l : Nat) : gA := (a_g A, a_k A, a_h A, a_i A, a_b A, a_t A, l, a_f A)
theorem op_end {σ : ps_S} (x : Int32) (h : b_R σ) : ∃ (r : Int32) (τ υ : ps_S), fX4_end x σ = some (r, τ) ∧ fX5_end x τ = some (r, υ) ∧ b_R υ := by
  obtain ⟨A, hw, hc, hm⟩ := h
  have hl := hw.2.2.2.2.2.1
  unfold fX4_end fX5_end
  simp only [ps_let]
  by_cases e : x < 0
  · refine ⟨0, σ, thr σ, by rw [if_pos e], by rw [if_pos e], b_keep hw hc (thr_R hm) (thr_fr σ)⟩
  · obtain ⟨n, hn, rfl⟩ := nI_of e
    rw [hc.2.2.2.2.1]
    by_cases e2 : nI n ≤ nI (a_l A)
    · have e3 : n ≤ a_l A := (nI_leI hn (by omega)).mp e2
      refine ⟨1, ps_ui σ 36 1 (nI n), ps_ui (thr (ps_ui σ 36 1 (nI n))) 45 2 (nI n), by rw [if_neg e, if_pos e2], ?_, A_len A n, ?_, ?_, ?_⟩
      · rw [if_neg e, if_pos]
        rw [pu_i, if_neg (by decide), pu_i, if_neg (by decide), hm.2.2.2.2.2.1]
        exact e2
      · obtain ⟨w1, w2, w3, w4, w5, w6, w7⟩ := hw
        exact ⟨w1, w2, w3, w4, w5, by show n ≤ 540; omega, w7⟩
      · obtain ⟨q1, q2, q3, q4, q5, q6⟩ := hc
        have f36 : ps_fr (fun k => k = 36 ∨ k = 45) σ (ps_ui (thr (ps_ui σ 36 1 (nI n))) 45 2 (nI n)) := ((ps_fr_ui (Or.inl rfl)).tr (ps_fr_ui (Or.inr rfl))).tr (ps_fr_ui (Or.inr rfl))
        refine ⟨q1.fr f36 (by omega), q2.fr f36 (by omega), fun i hi => ⟨?_, fun hb => ((q3 i hi).2 hb).fr f36 (by omega)⟩, fun i hi => ?_, ?_, ?_⟩
        · rw [(f36 (8 + 7 * i) (by omega)).1]; exact (q3 i hi).1
        · rw [(f36 37 (by omega)).1]
          exact q4 i (Nat.lt_of_lt_of_le hi e3)
        · simp only [pu_i]; simp; rfl
        · simp only [pu_i]; simp; exact q6
      · obtain ⟨q1, q2, q3, q4, q5, q6, q7⟩ := hm
        have f36 : ps_fr (fun k => k = 36 ∨ k = 45) σ (ps_ui (thr (ps_ui σ 36 1 (nI n))) 45 2 (nI n)) := ((ps_fr_ui (Or.inl rfl)).tr (ps_fr_ui (Or.inr rfl))).tr (ps_fr_ui (Or.inr rfl))
        refine ⟨q1.fr f36 (by omega), ?_, fun i hi => (q3 i hi).fr f36 (by omega), fun i hi => ⟨?_, fun hb => ((q4 i hi).2 hb).fr f36 (by omega)⟩, fun i hi => ?_, ?_, ?_⟩
        · simp only [pu_i]; simp; exact q2
        · rw [(f36 51 (by omega)).1]; exact (q4 i hi).1
        · rw [(f36 46 (by omega)).1]
          exact q5 i (Nat.lt_of_lt_of_le hi e3)
        · simp only [pu_i]; simp; rfl
        · simp only [pu_i]; simp; exact q7
    · refine ⟨0, σ, thr σ, by rw [if_neg e, if_neg e2], ?_, b_keep hw hc (thr_R hm) (thr_fr σ)⟩
      rw [if_neg e, if_neg]
      rw [pu_i, if_neg (by decide), hm.2.2.2.2.2.1]
      exact e2
/-- call 3: fault -/
theorem op_fault {σ : ps_S} (h : b_R σ) : ∃ (r : Int32) (υ : ps_S), fX4_fault σ = some r ∧ fX5_fault σ = some (r, υ) ∧ b_R υ := by
  obtain ⟨A, hw, hc, hm⟩ := h
  refine ⟨nI (a_f A), thr σ, by rw [fX4_fault, hc.2.2.2.2.2], ?_, b_keep hw hc (thr_R hm) (thr_fr σ)⟩
  unfold fX5_fault
  simp only [ps_let]
  rw [(thr_R hm).2.2.2.2.2.2]
/-- call 5: weight -/
theorem op_weight {σ : ps_S} (x : Int32) (h : b_R σ) : ∃ (r : Int32) (υ : ps_S), fX4_weight x σ = some r ∧ fX5_weight x σ = some (r, υ) ∧ b_R υ := by
  obtain ⟨A, hw, hc, hm⟩ := h
  have hm' := thr_R hm
  have hN := g_N_le hw.1
  rcases set_cases (a_g A) hw.1 x with hx | ⟨s, hs, rfl⟩
  · refine ⟨-1, thr σ, ?_, ?_, b_keep hw hc hm' (thr_fr σ)⟩
    · unfold fX4_weight
      rw [c_hasSet_no hc.1 hw.1 hx]; rfl
    · unfold fX5_weight
      simp only [ps_let]
      rw [m_isSet_no hm'.1 hw.1 hx]; rfl
  · refine ⟨nI (g_w (a_g A) s), thr σ, ?_, ?_, b_keep hw hc hm' (thr_fr σ)⟩
    · unfold fX4_weight
      rw [c_hasSet_yes hc.1 hw.1 hs, Option.bind_some, if_neg (by decide), nl_4, pk_ok (by decide) (by decide), pk_ok (by omega) (by decide), nI_clamp (by decide), nI_clamp (by omega), hc.1.2.2.1 s (by omega)]
    · unfold fX5_weight
      simp only [ps_let]
      rw [m_isSet_yes hm'.1 hw.1 hs, Option.bind_some, if_neg (by decide), n1, nI_add, pk_ok (by omega) (by decide), nI_clamp (by omega)]
      have := hm'.1.2.1 s (by omega)
      rw [Nat.zero_add] at this
      rw [this]
/-- call 6: joined -/
theorem op_joined {σ : ps_S} (x : Int32) (h : b_R σ) : ∃ (r : Int32) (υ : ps_S), fX4_joined x σ = some r ∧ fX5_joined x σ = some (r, υ) ∧ b_R υ := by
  obtain ⟨A, hw, hc, hm⟩ := h
  have hm' := thr_R hm
  have hN := hw.1.1
  rcases thing_cases (a_g A) hw.1 x with hx | ⟨t, ht, rfl⟩
  · refine ⟨-1, thr σ, ?_, ?_, b_keep hw hc hm' (thr_fr σ)⟩
    · unfold fX4_joined
      rw [c_hasThing_no hc.1 hx]; rfl
    · unfold fX5_joined
      simp only [ps_let]
      rw [m_isThing_no hm'.1 hw.1 hx]; rfl
  · refine ⟨nI (g_j (a_g A) t), thr σ, ?_, ?_, b_keep hw hc hm' (thr_fr σ)⟩
    · unfold fX4_joined
      rw [c_hasThing_yes hc.1 hw.1 ht, Option.bind_some, if_neg (by decide), c_mates hc.1 hw.1 (by omega), Option.bind_some]
    · unfold fX5_joined
      simp only [ps_let]
      rw [m_isThing_yes hm'.1 hw.1 ht, Option.bind_some, if_neg (by decide), nl_257, nI_add, pk_ok (by omega) (by decide), nI_clamp (by omega)]
      have := hm'.1.2.2.1 t (by omega)
      rw [Nat.zero_add] at this
      rw [this]
/-- call 7: at -/
theorem op_at {σ : ps_S} (x y : Int32) (h : b_R σ) : ∃ (r : Int32) (υ : ps_S), fX4_at x y σ = some r ∧ fX5_at x y σ = some (r, υ) ∧ b_R υ := by
  obtain ⟨A, hw, hc, hm⟩ := h
  have hm' := thr_R hm
  have hN := g_N_le hw.1
  rcases row_cases (a_g A) x with hx | ⟨hn, r, hr, rfl⟩
  · refine ⟨-1, thr σ, ?_, ?_, b_keep hw hc hm' (thr_fr σ)⟩
    · unfold fX4_at
      rw [c_hasRow_no hc.1 hw.1 hx]; rfl
    · unfold fX5_at
      simp only [ps_let]
      rw [m_isRow_no hm'.1 hw.1 hx]; rfl
  · rcases set_cases (a_g A) hw.1 y with hy | ⟨s, hs, rfl⟩
    · refine ⟨-1, thr σ, ?_, ?_, b_keep hw hc hm' (thr_fr σ)⟩
      · unfold fX4_at
        rw [c_hasRow_yes hc.1 hw.1 hr hn, Option.bind_some, if_neg (by decide), c_hasSet_no hc.1 hw.1 hy]; rfl
      · unfold fX5_at
        simp only [ps_let]
        rw [m_isRow_yes hm'.1 hw.1 hr hn, Option.bind_some, if_neg (by decide), m_isSet_no hm'.1 hw.1 hy]; rfl
    · refine ⟨nI (g_f (a_g A) r s), thr σ, ?_, ?_, b_keep hw hc hm' (thr_fr σ)⟩
      · unfold fX4_at
        rw [c_hasRow_yes hc.1 hw.1 hr hn, Option.bind_some, if_neg (by decide), c_hasSet_yes hc.1 hw.1 hs, Option.bind_some, if_neg (by decide), pk_ok (by omega) (by decide), pk_ok (by omega) (by decide), nI_clamp (by omega), nI_clamp (by omega), show 2 + 1 + r = 1 + 2 + r by omega, hc.1.2.2.2 r s hr (by omega)]
      · unfold fX5_at
        simp only [ps_let]
        rw [m_isRow_yes hm'.1 hw.1 hr hn, Option.bind_some, if_neg (by decide), m_isSet_yes hm'.1 hw.1 hs, Option.bind_some, if_neg (by decide), m_numberOf hm'.1 hr (by omega), Option.bind_some]
