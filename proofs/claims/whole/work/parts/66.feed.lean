/-! feed -/
/-- the byte of a number from bit k on -/
def f_by (v : Int32) (k : Nat) : Nat := v.toBitVec.toNat / 2 ^ k % 256
theorem f_ush (v : Int32) {k : Nat} (hk : k < 32) : (v.toUInt32 >>> (Int32.toUInt32 (nI k) &&& Int32.toUInt32 31)).toInt32 = nI (v.toBitVec.toNat / 2 ^ k) := by
  apply Int32.toBitVec_inj.mp
  apply BitVec.eq_of_toNat_eq
  have h : v.toBitVec.toNat / 2 ^ k < 2 ^ 32 := Nat.lt_of_le_of_lt (Nat.div_le_self _ _) v.toBitVec.isLt
  rw [pk_ushr v (nI k) k (nf_sl k hk), pk_tn h]
theorem f_m (v : Int32) {k : Nat} (hk : k < 32) : (v.toUInt32 >>> (Int32.toUInt32 (nI k) &&& Int32.toUInt32 31)).toInt32 &&& (255 : Int32) = nI (f_by v k) := by
  rw [f_ush v hk, show (255 : Int32) = nI (2 ^ 8 - 1) from rfl, fa_mask]; rfl
theorem f_c (v : Int32) {k : Nat} (hk : k < 32) : vp_nar .byte ((Int32.toInt8 ((v.toUInt32 >>> (Int32.toUInt32 (nI k) &&& Int32.toUInt32 31)).toInt32)).toInt32) = (nI (f_by v k)).toInt8.toInt32 := by
  rw [pk_vb, ← f_m v hk, fa_byte_low]
/-- the tape with i bytes more -/
def t_ad (t : Nat → Nat) (l : Nat) (v : Int32) (i q : Nat) : Nat := if l ≤ q ∧ q < l + i then f_by v (24 - 8 * (q - l)) else t q
def A_tk (A : gA) (v : Int32) : gA := (a_g A, a_k A, a_h A, a_i A, a_b A, t_ad (a_t A) (a_l A) v 4, a_l A + 4, a_f A)
theorem A_tk_wf {A : gA} {v : Int32} (h : a_wf A) (hl : a_l A + 4 ≤ 540) : a_wf (A_tk A v) := by
  obtain ⟨w1, w2, w3, w4, w5, w6, w7⟩ := h
  refine ⟨w1, w2, w3, w4, fun i => ?_, hl, w7⟩
  show t_ad (a_t A) (a_l A) v 4 i < 256
  unfold t_ad
  split
  · exact Nat.mod_lt _ (by decide)
  · exact w5 i
/-- the shifts: 24, 16, 8, 0, -8 -/
def f_sh (i : Nat) : Int32 := if i < 4 then nI (24 - 8 * i) else -8
theorem f_sh_s : ∀ i, i < 4 → nI (24 - 8 * i) + (-8 : Int32) = f_sh (i + 1) := by decide
theorem c_take {σ : ps_S} {A : gA} {v : Int32} (hc : c_R σ A) (hl : a_l A + 4 ≤ 540) : ∃ τ, fX2_take v σ = some τ ∧ ps_fr (fun k => k = 36 ∨ k = 37) σ τ ∧ c_R τ (A_tk A v) := by
  obtain ⟨q1, q2, q3, q4, q5, q6⟩ := hc
  unfold fX2_take
  obtain ⟨x, hx, r1, r2, r3, r4⟩ := ps_for (step := fun s => fX2_take_S3 v s.1 s.2) 4
    (fun i s => s.1 = f_sh i ∧ ps_fr (fun k => k = 36 ∨ k = 37) σ s.2 ∧ s.2.1 36 1 = nI (a_l A + i) ∧ (∀ j, j ≠ 1 → s.2.1 36 j = σ.1 36 j) ∧ ∀ q, q < a_l A + i → s.2.1 37 q = (nI (t_ad (a_t A) (a_l A) v i q)).toInt8.toInt32)
    (fun s => ps_fr (fun k => k = 36 ∨ k = 37) σ s ∧ s.1 36 1 = nI (a_l A + 4) ∧ (∀ j, j ≠ 1 → s.1 36 j = σ.1 36 j) ∧ ∀ q, q < a_l A + 4 → s.1 37 q = (nI (t_ad (a_t A) (a_l A) v 4 q)).toInt8.toInt32)
    (F := 100000) (s := ((24 : Int32), σ)) (by
      intro i s hi ⟨e, hf, h1, h2, h3⟩
      obtain ⟨a2, τ⟩ := s
      simp only at e hf h1 h2 h3
      have e' : a2 = nI (24 - 8 * i) := by rw [e]; unfold f_sh; rw [if_pos hi]
      subst e'
      refine ⟨(f_sh (i + 1), ps_ui (ps_ui τ 37 (a_l A + i) ((nI (f_by v (24 - 8 * i))).toInt8.toInt32)) 36 1 (nI (a_l A + i + 1))), ?_, rfl, (hf.tr (ps_fr_ui (Or.inr rfl))).tr (ps_fr_ui (Or.inl rfl)), ?_, fun j hj => ?_, fun q hq => ?_⟩
      · unfold fX2_take_S3
        simp only [ps_let]
        have e36 : (ps_ui τ 37 (a_l A + i) ((nI (f_by v (24 - 8 * i))).toInt8.toInt32)).1 36 1 = nI (a_l A + i) := by rw [pu_i, if_neg (by omega)]; exact h1
        rw [if_neg (nI_pos (by omega)), h1, nl_540, if_neg (nI_ge (by omega) (by decide)), pk_ok (by omega) (by decide), nI_clamp (by omega), f_c v (by omega), e36, nI_1, f_sh_s i hi]
      · show (ps_ui _ 36 1 _).1 36 1 = _
        rw [pu_i, if_pos ⟨rfl, rfl⟩]; rfl
      · show (ps_ui _ 36 1 _).1 36 j = _
        rw [pu_i, if_neg (by omega), pu_i, if_neg (by omega)]; exact h2 j hj
      · show (ps_ui _ 36 1 _).1 37 q = _
        rw [pu_i, if_neg (by omega), pu_i]
        by_cases eq : q = a_l A + i
        · subst eq
          rw [if_pos ⟨rfl, rfl⟩]
          unfold t_ad
          rw [if_pos (by omega), show 24 - 8 * (a_l A + i - a_l A) = 24 - 8 * i by omega]
        · rw [if_neg (by omega), h3 q (by omega)]
          unfold t_ad
          by_cases c : a_l A ≤ q ∧ q < a_l A + i
          · rw [if_pos c, if_pos (by omega)]
          · rw [if_neg c, if_neg (by omega)]) (by
      intro s ⟨e, hf, h1, h2, h3⟩
      obtain ⟨a2, τ⟩ := s
      simp only at e hf h1 h2 h3
      subst e
      exact ⟨τ, by unfold fX2_take_S3; rw [if_pos (show f_sh 4 < 0 by decide)], hf, h1, h2, h3⟩) ⟨rfl, ps_fr.rf, q5, fun _ _ => rfl, fun q hq => by
        unfold t_ad
        rw [if_neg (by omega)]
        exact q4 q hq⟩ (by decide)
  rw [hx, Option.bind_some]
  exact ⟨x, rfl, r1, q1.fr r1 (by omega), c_K_same (q2.fr r1 (by omega)) rfl rfl rfl, fun i hi => ⟨by rw [(r1 (8 + 7 * i) (by omega)).1]; exact (q3 i hi).1, fun hb => ((q3 i hi).2 hb).fr r1 (by omega)⟩, r4, r2, by rw [r3 2 (by decide)]; exact q6⟩
theorem m_lays {σ : ps_S} {A : gA} {v : Int32} (hm : m_R σ A) (hl : a_l A + 4 ≤ 540) : ∃ τ, fX5_lays v σ = some τ ∧ ps_fr (fun k => k = 45 ∨ k = 46) σ τ ∧ m_R τ (A_tk A v) := by
  obtain ⟨q1, q2, q3, q4, q5, q6, q7⟩ := hm
  unfold fX5_lays
  obtain ⟨x, hx, r1, r2, r3, r4⟩ := ps_for (step := fun s => fX5_lays_S3 v s.1 s.2) 4
    (fun i s => s.1 = f_sh i ∧ ps_fr (fun k => k = 45 ∨ k = 46) σ s.2 ∧ s.2.1 45 2 = nI (a_l A + i) ∧ (∀ j, j ≠ 2 → s.2.1 45 j = σ.1 45 j) ∧ ∀ q, q < a_l A + i → s.2.1 46 q = nI (t_ad (a_t A) (a_l A) v i q))
    (fun s => ps_fr (fun k => k = 45 ∨ k = 46) σ s ∧ s.1 45 2 = nI (a_l A + 4) ∧ (∀ j, j ≠ 2 → s.1 45 j = σ.1 45 j) ∧ ∀ q, q < a_l A + 4 → s.1 46 q = nI (t_ad (a_t A) (a_l A) v 4 q))
    (F := 100000) (s := ((24 : Int32), σ)) (by
      intro i s hi ⟨e, hf, h1, h2, h3⟩
      obtain ⟨a2, τ⟩ := s
      simp only at e hf h1 h2 h3
      have e' : a2 = nI (24 - 8 * i) := by rw [e]; unfold f_sh; rw [if_pos hi]
      subst e'
      refine ⟨(f_sh (i + 1), ps_ui (ps_ui τ 46 (a_l A + i) (nI (f_by v (24 - 8 * i)))) 45 2 (nI (a_l A + i + 1))), ?_, rfl, (hf.tr (ps_fr_ui (Or.inr rfl))).tr (ps_fr_ui (Or.inl rfl)), ?_, fun j hj => ?_, fun q hq => ?_⟩
      · unfold fX5_lays_S3
        simp only [ps_let]
        have e36 : (ps_ui τ 46 (a_l A + i) (nI (f_by v (24 - 8 * i)))).1 45 2 = nI (a_l A + i) := by rw [pu_i, if_neg (by omega)]; exact h1
        rw [if_neg (nI_pos (by omega)), h1, pk_ok (by omega) (by decide), nI_clamp (by omega), f_m v (by omega), e36, nI_1, f_sh_s i hi]
      · show (ps_ui _ 45 2 _).1 45 2 = _
        rw [pu_i, if_pos ⟨rfl, rfl⟩]; rfl
      · show (ps_ui _ 45 2 _).1 45 j = _
        rw [pu_i, if_neg (by omega), pu_i, if_neg (by omega)]; exact h2 j hj
      · show (ps_ui _ 45 2 _).1 46 q = _
        rw [pu_i, if_neg (by omega), pu_i]
        by_cases eq : q = a_l A + i
        · subst eq
          rw [if_pos ⟨rfl, rfl⟩]
          unfold t_ad
          rw [if_pos (by omega), show 24 - 8 * (a_l A + i - a_l A) = 24 - 8 * i by omega]
        · rw [if_neg (by omega), h3 q (by omega)]
          unfold t_ad
          by_cases c : a_l A ≤ q ∧ q < a_l A + i
          · rw [if_pos c, if_pos (by omega)]
          · rw [if_neg c, if_neg (by omega)]) (by
      intro s ⟨e, hf, h1, h2, h3⟩
      obtain ⟨a2, τ⟩ := s
      simp only at e hf h1 h2 h3
      subst e
      exact ⟨τ, by unfold fX5_lays_S3; rw [if_pos (show f_sh 4 < 0 by decide)], hf, h1, h2, h3⟩) ⟨rfl, ps_fr.rf, q6, fun _ _ => rfl, fun q hq => by
        unfold t_ad
        rw [if_neg (by omega)]
        exact q5 q hq⟩ (by decide)
  rw [hx, Option.bind_some]
  exact ⟨x, rfl, r1, q1.fr r1 (by decide), by rw [r3 15 (by decide)]; exact q2, fun i hi => (q3 i hi).fr r1 (by decide), fun i hi => ⟨by rw [(r1 51 (by decide)).1]; exact (q4 i hi).1, fun hb => ((q4 i hi).2 hb).fr r1 (by decide)⟩, r4, r2, by rw [r3 8 (by decide)]; exact q7⟩
/-- call 0: feed -/
theorem op_feed {σ : ps_S} (a b c d e : Int32) (h : b_R σ) : ∃ (r : Int32) (τ υ : ps_S), fX4_feed a b c d e σ = some (r, τ) ∧ fX5_feed a b c d e τ = some (r, υ) ∧ b_R υ := by
  obtain ⟨A, hw, hc, hm⟩ := h
  have hl := hw.2.2.2.2.2.1
  have hm' := thr_R hm
  by_cases hr : a_l A + 20 ≤ 540
  · obtain ⟨σ1, x1, x2, x3⟩ := c_take (v := a) hc (by omega)
    obtain ⟨σ2, y1, y2, y3⟩ := c_take (v := b) x3 (by show a_l A + 4 + 4 ≤ 540; omega)
    obtain ⟨σ3, z1, z2, z3⟩ := c_take (v := c) y3 (by show a_l A + 4 + 4 + 4 ≤ 540; omega)
    obtain ⟨σ4, u1, u2, u3⟩ := c_take (v := d) z3 (by show a_l A + 4 + 4 + 4 + 4 ≤ 540; omega)
    obtain ⟨σ5, v1, v2, v3⟩ := c_take (v := e) u3 (by show a_l A + 4 + 4 + 4 + 4 + 4 ≤ 540; omega)
    have fc : ps_fr (fun k => k = 36 ∨ k = 37) σ σ5 := (((x2.tr y2).tr z2).tr u2).tr v2
    have hmc := thr_R (m_R_c hm (fc.wk (fun k q => by unfold c_own; omega)))
    obtain ⟨τ1, a1, a2, a3⟩ := m_lays (v := a) hmc (by omega)
    obtain ⟨τ2, b1, b2, b3⟩ := m_lays (v := b) a3 (by show a_l A + 4 + 4 ≤ 540; omega)
    obtain ⟨τ3, c1, c2, c3⟩ := m_lays (v := c) b3 (by show a_l A + 4 + 4 + 4 ≤ 540; omega)
    obtain ⟨τ4, d1, d2, d3⟩ := m_lays (v := d) c3 (by show a_l A + 4 + 4 + 4 + 4 ≤ 540; omega)
    obtain ⟨τ5, e1, e2, e3⟩ := m_lays (v := e) d3 (by show a_l A + 4 + 4 + 4 + 4 + 4 ≤ 540; omega)
    have w1 := A_tk_wf (v := a) hw (by omega)
    have w2 := A_tk_wf (v := b) w1 (by show a_l A + 4 + 4 ≤ 540; omega)
    have w3 := A_tk_wf (v := c) w2 (by show a_l A + 4 + 4 + 4 ≤ 540; omega)
    have w4 := A_tk_wf (v := d) w3 (by show a_l A + 4 + 4 + 4 + 4 ≤ 540; omega)
    have w5 := A_tk_wf (v := e) w4 (by show a_l A + 4 + 4 + 4 + 4 + 4 ≤ 540; omega)
    have fm : ps_fr m_own σ5 τ5 := (thr_fr σ5).tr (((((a2.tr b2).tr c2).tr d2).tr e2).wk (fun k q => by unfold m_own; omega))
    refine ⟨nI (a_l A + 4 + 4 + 4 + 4 + 4), σ5, τ5, ?_, ?_, b_both (σ := σ) (A := A) w5 v3 fm e3⟩
    · unfold fX4_feed fX2_hasRoom
      rw [hc.2.2.2.2.1, nl_20, nI_add, nl_540, if_neg (nI_nlt hr (by omega)), Option.bind_some, if_neg (by decide), x1, Option.bind_some, y1, Option.bind_some, z1, Option.bind_some, u1, Option.bind_some, v1, Option.bind_some, v3.2.2.2.2.1]; rfl
    · unfold fX5_feed
      simp only [ps_let]
      rw [hmc.2.2.2.2.2.1, nl_20, nI_add, nl_540, if_pos (nI_le hr (by decide)), a1, Option.bind_some, b1, Option.bind_some, c1, Option.bind_some, d1, Option.bind_some, e1, Option.bind_some, e3.2.2.2.2.2.1]; rfl
  · refine ⟨-1, σ, thr σ, ?_, ?_, b_keep hw hc hm' (thr_fr σ)⟩
    · unfold fX4_feed fX2_hasRoom
      rw [hc.2.2.2.2.1, nl_20, nI_add, nl_540, if_pos (nI_lt (by omega) (by omega)), Option.bind_some, if_pos rfl]
    · unfold fX5_feed
      simp only [ps_let]
      rw [hm'.2.2.2.2.2.1, nl_20, nI_add, nl_540, if_neg (nI_ge (by omega) (by omega))]
