/-! inverse, allWays, roots -/
theorem ps_subs2 {S X : Type} {step : S → Option (S ⊕ X)} (s p0 : Nat) (I : Nat → S → Prop) (Q : X → Prop) (hs : ∀ p st, 0 < p → g_sub p s → I p st → ∃ st', step st = some (.inl st') ∧ I ((p - 1) &&& s) st') (hx : ∀ st, I 0 st → ∃ x, step st = some (.inr x) ∧ Q x) {F : Nat} {st : S} (hp0 : g_sub p0 s) (h0 : I p0 st) (hF : p0 < F) : ∃ x, ps_lp step F st = some x ∧ Q x := by
  have H : ∀ p, ∀ F st, p < F → g_sub p s → I p st → ∃ x, ps_lp step F st = some x ∧ Q x := by
    intro p
    induction p using Nat.strongRecOn with
    | _ p ih =>
      intro F st hF hp hI
      match F, hF with
      | F + 1, hF =>
        by_cases e : p = 0
        · subst e
          obtain ⟨x, h1, h2⟩ := hx st hI
          exact ⟨x, by simp only [ps_lp, h1, Option.bind_some], h2⟩
        · obtain ⟨st', h1, h2⟩ := hs p st (by omega) hp hI
          have hl := pred_lt (s := s) (show 0 < p by omega)
          obtain ⟨x, a, b⟩ := ih _ hl F st' (by omega) (sub_and _ _) h2
          exact ⟨x, by simp only [ps_lp, h1, Option.bind_some]; exact a, b⟩
  exact H p0 F st hF hp0 h0
theorem ud_0 (s : Nat) (g : Nat → Int) : u_d s g 0 = u_s s (fun p => if p = 0 then 0 else g p) := fb_si_cong (fun q _ => by
  by_cases c : g_df q s = 0
  · by_cases d : q = 0
    · rw [if_pos c, if_neg (fun z => by omega)]
      exact (if_pos d).symm
    · rw [if_pos c, if_pos ⟨c, by omega⟩]
      exact (if_neg d).symm
  · rw [if_neg c, if_neg (fun z => c z.1)])
theorem iv_eq {M : Int} {f : Nat → Int} {u : Int} (hu : pe M (f 0 * u) 1) {T : Nat} (hT : T < 256) (c : T ≠ 0) : pe M (-(u_s T (fun p => if p = 0 then 0 else f p * s_H f (s_iv u) 0 (T ^^^ p))) * u) (s_H f (s_iv u) 0 T) := by
  have h1 := (H_iv hu T hT).2
  rw [if_neg c] at h1
  have hs : s_cv f (s_H f (s_iv u) 0) T = u_s T (fun p => if p = 0 then 0 else f p * s_H f (s_iv u) 0 (T ^^^ p)) + f 0 * s_H f (s_iv u) 0 T := by
    unfold s_cv
    rw [u_d_0, ud_0, Nat.xor_zero]
  rw [hs] at h1
  generalize u_s T (fun p => if p = 0 then 0 else f p * s_H f (s_iv u) 0 (T ^^^ p)) = Y at h1
  generalize s_H f (s_iv u) 0 T = H at h1
  obtain ⟨q1, h1⟩ := h1
  obtain ⟨q4, hu⟩ := hu
  refine ⟨H * q4 - q1 * u, ?_⟩
  have hY : Y = M * q1 - f 0 * H := by omega
  rw [hY]
  grind
theorem rt_eq {f : Nat → Int} (hf : f 0 = 1) {T : Nat} (hT : T < 256) (h0 : T ≠ 0) : s_H f s_rt 0 T = f T - u_s T (fun p => if p.testBit (g_lt T) = true ∧ p ≠ T then s_H f s_rt 0 p * f (T ^^^ p) else 0) := by
  obtain ⟨l1, l2, l3, -⟩ := lt_ok T hT h0
  have h1 := rt_sum hf (S := T) hT h0
  have h2 := u_but T (fun p => s_H f s_rt 0 p * f (T ^^^ p)) (fun p => p.testBit (g_lt T) = true) l2
  rw [h1, Nat.xor_self, hf, Int.mul_one] at h2
  omega
theorem aw_eq {f : Nat → Int} {T : Nat} (hT : T < 256) (h0 : T ≠ 0) : s_H f (fun _ => 1) 0 T = u_s T (fun p => if p.testBit (g_lt T) = true then f p * s_H f (fun _ => 1) 0 (T ^^^ p) else 0) := by
  obtain ⟨l1, l2, l3, -⟩ := lt_ok T hT h0
  rw [s_H1 _ _ _ hT h0, u_low hT l1 l2, ← rs_eq hT h0]
  refine u_s_cong (fun m hm hsub => ?_)
  have := sub_le (sub_rest hsub)
  show f (m ^^^ 2 ^ g_lt T) * s_H f (fun _ => 1) (0 + 1) (g_rs T ^^^ m) = f (m ^^^ 2 ^ g_lt T) * s_H f (fun _ => 1) 0 (T ^^^ (m ^^^ 2 ^ g_lt T))
  rw [x_x, ← rs_eq hT h0, H_shift f (fun _ => 1) _ (by omega) 0]
theorem low_test {S p : Nat} (hS : S < 256) (h0 : S ≠ 0) : ((nI p &&& nI S) &&& (-nI S)) = 0 ↔ p.testBit (g_lt S) = false := by
  have hl := (lt_ok S hS h0).1
  rw [Int32.and_assoc, low_int S hS h0]
  exact fa_bit (by omega)
/-- the numbers of the inverse -/
theorem m_inv1 {σ : ps_S} {a : gG} {r s : Nat} {a2 : Int32} {a3 : Int64} {X : Nat → Int} (h : m_G σ 47 0 a) (hw : g_wf a) (hr : r < 4) (hs : s < 2 ^ g_n a) (hX : ∀ x, x < s → σ.1 52 x = nI (g_red (X x))) : ∃ e, ps_lp (fun q => fX5_inverse_S70 (nI r) a2 a3 (nI s) σ q.1 q.2) 100000 ((0 : Int64), nI s) = some e ∧ pe 1000003 e.toInt (u_s s (fun p => if p = 0 then 0 else (g_f a r p : Int) * X (s ^^^ p))) := by
  have h8 := hw.1
  have h2 := p2_le _ h8
  have hP : g_P = 1000003 := rfl
  let g : Nat → Int := fun p => (g_red ((g_f a r p : Int) * (g_red (X (s ^^^ p)) : Int)) : Int)
  have hg : ∀ p, p ≤ s → -(1000003 : Int) ≤ g p ∧ g p ≤ 1000003 := fun p _ => red_b _
  obtain ⟨e, e1, e2⟩ := ps_subs (step := fun q => fX5_inverse_S70 (nI r) a2 a3 (nI s) σ q.1 q.2) s (fun p q => q.2 = nI p ∧ q.1.toInt = u_d s g p) (fun e => e.toInt = u_d s g 0) (by
      rintro p ⟨e, c⟩ hp hsub ⟨q1, q2⟩
      simp only at q1 q2
      subst q1
      have hps := sub_le hsub
      have hlt : s ^^^ p < s := by
        have h3 := sub_le (sub_rest hsub)
        have h4 : s ^^^ p ≠ s := fun q => by
          have := congrArg (fun y => s ^^^ y) q
          simp [← Nat.xor_assoc] at this
          omega
        omega
      have s4 : ((Int32.toInt64 (nI (g_f a r p)) * Int32.toInt64 (nI (g_red (X (s ^^^ p))))) - (Int32.toInt64 (nI (g_f a r p)) * Int32.toInt64 (nI (g_red (X (s ^^^ p))))) / 1000003 * 1000003).toInt = g p := m_term (by have := hw.2.2.2.2.2.2.2.1 r p; omega) (g_red_lt _)
      have b1 := u_d_bound (c := 1000003) (by decide) hg p
      have b2 := hg p hps
      refine ⟨(e + ((Int32.toInt64 (nI (g_f a r p)) * Int32.toInt64 (nI (g_red (X (s ^^^ p))))) - (Int32.toInt64 (nI (g_f a r p)) * Int32.toInt64 (nI (g_red (X (s ^^^ p))))) / 1000003 * 1000003), nI ((p - 1) &&& s)), ?_, rfl, ?_⟩
      · show fX5_inverse_S70 (nI r) a2 a3 (nI s) σ e (nI p) = _
        unfold fX5_inverse_S70
        simp only [ps_let]
        rw [if_neg (nI_nle hp (by omega)), m_numberOf h hr (by omega), Option.bind_some, df_int, df_xor hsub, pk_ok (by omega) (by decide), nI_clamp (by omega), hX _ hlt, n1, pk_sub (by omega), fa_and]
      · show (e + _).toInt = _
        rw [fb_addL (by rw [q2, s4]; omega) (by rw [q2, s4]; omega), q2, s4, u_d_step _ hsub hp]) (by
      rintro ⟨e, c⟩ ⟨q1, q2⟩
      simp only at q1 q2
      subst q1
      refine ⟨e, ?_, q2⟩
      show fX5_inverse_S70 (nI r) a2 a3 (nI s) σ e (nI 0) = _
      unfold fX5_inverse_S70
      rw [if_pos (by decide)]) (F := 100000) (st := ((0 : Int64), nI s)) ⟨rfl, by
        show (0 : Int64).toInt = _
        rw [u_d_top]; rfl⟩ (by omega)
  refine ⟨e, e1, ?_⟩
  rw [e2, ud_0]
  refine pe_u (fun p hp hsub => ?_)
  show pe 1000003 (if p = 0 then 0 else g p) (if p = 0 then 0 else (g_f a r p : Int) * X (s ^^^ p))
  by_cases c : p = 0
  · rw [if_pos c, if_pos c]; exact pe.rf
  · rw [if_neg c, if_neg c]
    exact (pe_red.mpr (red_red _)).tr (pe.ml _ (pe_red.mpr (red_red _)))
theorem m_all1 {σ : ps_S} {a : gG} {r s : Nat} {a2 : Int32} {X : Nat → Int} (h : m_G σ 47 0 a) (hw : g_wf a) (hr : r < 4) (hs : s < 2 ^ g_n a) (h0 : s ≠ 0) (hX : ∀ x, x < s → σ.1 52 x = nI (g_red (X x))) : ∃ e, ps_lp (fun q => fX5_allWays_S55 (nI r) a2 (nI s) σ q.1 q.2) 100000 ((0 : Int64), nI s) = some e ∧ pe 1000003 e.toInt (u_s s (fun p => if p.testBit (g_lt s) = true then (g_f a r p : Int) * X (s ^^^ p) else 0)) := by
  have h8 := hw.1
  have h2 := p2_le _ h8
  have hP : g_P = 1000003 := rfl
  let g : Nat → Int := fun p => if p.testBit (g_lt s) = true then (g_red ((g_f a r p : Int) * (g_red (X (s ^^^ p)) : Int)) : Int) else 0
  have hg : ∀ p, p ≤ s → -(1000003 : Int) ≤ g p ∧ g p ≤ 1000003 := fun p _ => by
    show -(1000003 : Int) ≤ (if p.testBit (g_lt s) = true then _ else _) ∧ (if p.testBit (g_lt s) = true then _ else _) ≤ (1000003 : Int)
    split
    · exact red_b _
    · omega
  obtain ⟨e, e1, e2⟩ := ps_subs (step := fun q => fX5_allWays_S55 (nI r) a2 (nI s) σ q.1 q.2) s (fun p q => q.2 = nI p ∧ q.1.toInt = u_d s g p) (fun e => e.toInt = u_d s g 0) (by
      rintro p ⟨e, c⟩ hp hsub ⟨q1, q2⟩
      simp only at q1 q2
      subst q1
      have hps := sub_le hsub
      have hlt : s ^^^ p < s := by
        have h3 := sub_le (sub_rest hsub)
        have h4 : s ^^^ p ≠ s := fun q => by
          have := congrArg (fun y => s ^^^ y) q
          simp [← Nat.xor_assoc] at this
          omega
        omega
      have b1 := u_d_bound (c := 1000003) (by decide) hg p
      have b2 := hg p hps
      have hlow := low_test (S := s) (p := p) (by omega) h0
      cases hb : p.testBit (g_lt s)
      · refine ⟨(e, nI ((p - 1) &&& s)), ?_, rfl, ?_⟩
        · show fX5_allWays_S55 (nI r) a2 (nI s) σ e (nI p) = _
          unfold fX5_allWays_S55 fX5_allWays_J100
          simp only [ps_let]
          rw [if_neg (nI_nle hp (by omega)), if_pos (hlow.mpr hb), n1, pk_sub (by omega), fa_and]
        · show e.toInt = _
          rw [u_d_step _ hsub hp, q2]
          have : g p = 0 := if_neg (by rw [hb]; decide)
          rw [this, Int.add_zero]
      · have s4 : ((Int32.toInt64 (nI (g_f a r p)) * Int32.toInt64 (nI (g_red (X (s ^^^ p))))) - (Int32.toInt64 (nI (g_f a r p)) * Int32.toInt64 (nI (g_red (X (s ^^^ p))))) / 1000003 * 1000003).toInt = g p := by
          have : g p = (g_red ((g_f a r p : Int) * (g_red (X (s ^^^ p)) : Int)) : Int) := if_pos hb
          rw [this]
          exact m_term (by have := hw.2.2.2.2.2.2.2.1 r p; omega) (g_red_lt _)
        refine ⟨(e + ((Int32.toInt64 (nI (g_f a r p)) * Int32.toInt64 (nI (g_red (X (s ^^^ p))))) - (Int32.toInt64 (nI (g_f a r p)) * Int32.toInt64 (nI (g_red (X (s ^^^ p))))) / 1000003 * 1000003), nI ((p - 1) &&& s)), ?_, rfl, ?_⟩
        · show fX5_allWays_S55 (nI r) a2 (nI s) σ e (nI p) = _
          unfold fX5_allWays_S55 fX5_allWays_J100
          simp only [ps_let]
          rw [if_neg (nI_nle hp (by omega)), if_neg (fun q => by rw [hlow.mp q] at hb; exact absurd hb (by decide)), m_numberOf h hr (by omega), Option.bind_some, df_int, df_xor hsub, pk_ok (by omega) (by decide), nI_clamp (by omega), hX _ hlt, n1, pk_sub (by omega), fa_and]
        · show (e + _).toInt = _
          rw [fb_addL (by rw [q2, s4]; omega) (by rw [q2, s4]; omega), q2, s4, u_d_step _ hsub hp]) (by
      rintro ⟨e, c⟩ ⟨q1, q2⟩
      simp only at q1 q2
      subst q1
      refine ⟨e, ?_, q2⟩
      show fX5_allWays_S55 (nI r) a2 (nI s) σ e (nI 0) = _
      unfold fX5_allWays_S55
      rw [if_pos (by decide)]) (F := 100000) (st := ((0 : Int64), nI s)) ⟨rfl, by
        show (0 : Int64).toInt = _
        rw [u_d_top]; rfl⟩ (by omega)
  refine ⟨e, e1, ?_⟩
  have hz : g 0 = 0 := if_neg (by rw [Nat.zero_testBit]; decide)
  have : u_d s g 0 = u_s s g := by rw [u_d_0, hz, Int.add_zero]
  rw [e2, this]
  refine pe_u (fun p hp hsub => ?_)
  show pe 1000003 (if p.testBit (g_lt s) = true then _ else _) (if p.testBit (g_lt s) = true then (g_f a r p : Int) * X (s ^^^ p) else 0)
  by_cases c : p.testBit (g_lt s) = true
  · rw [if_pos c, if_pos c]
    exact (pe_red.mpr (red_red _)).tr (pe.ml _ (pe_red.mpr (red_red _)))
  · rw [if_neg c, if_neg c]; exact pe.rf
theorem m_root1 {σ : ps_S} {a : gG} {r s : Nat} {a2 : Int32} {X : Nat → Int} (h : m_G σ 47 0 a) (hw : g_wf a) (hr : r < 4) (hs : s < 2 ^ g_n a) (h0 : s ≠ 0) (hX : ∀ x, x < s → σ.1 52 x = nI (g_red (X x))) : ∃ e, ps_lp (fun q => fX5_roots_S66 (nI r) a2 (nI s) σ q.1 q.2) 100000 (Int32.toInt64 (nI (g_f a r s)), nI ((s - 1) &&& s)) = some e ∧ pe 1000003 e.toInt ((g_f a r s : Int) - u_s s (fun p => if p.testBit (g_lt s) = true ∧ p ≠ s then X p * (g_f a r (s ^^^ p) : Int) else 0)) := by
  have h8 := hw.1
  have h2 := p2_le _ h8
  have hP : g_P = 1000003 := rfl
  have hfs := hw.2.2.2.2.2.2.2.1 r s
  let g : Nat → Int := fun p => if p.testBit (g_lt s) = true ∧ p ≠ s then (g_red ((g_red (X p) : Int) * (g_f a r (s ^^^ p) : Int)) : Int) else 0
  have hg : ∀ p, p ≤ s → -(1000003 : Int) ≤ g p ∧ g p ≤ 1000003 := fun p _ => by
    show -(1000003 : Int) ≤ (if p.testBit (g_lt s) = true ∧ p ≠ s then _ else _) ∧ (if p.testBit (g_lt s) = true ∧ p ≠ s then _ else _) ≤ (1000003 : Int)
    split
    · exact red_b _
    · omega
  obtain ⟨e, e1, e2⟩ := ps_subs2 (step := fun q => fX5_roots_S66 (nI r) a2 (nI s) σ q.1 q.2) s ((s - 1) &&& s) (fun p q => p < s ∧ q.2 = nI p ∧ q.1.toInt = (g_f a r s : Int) - u_d s g p) (fun e => e.toInt = (g_f a r s : Int) - u_d s g 0) (by
      rintro p ⟨e, c⟩ hp hsub ⟨q0, q1, q2⟩
      simp only at q1 q2
      subst q1
      have hps := sub_le hsub
      have hlt : s ^^^ p < 256 := xor256 (by omega) (by omega)
      have b1 := u_d_bound (c := 1000003) (by decide) hg p
      have b2 := hg p hps
      have hlow := low_test (S := s) (p := p) (by omega) h0
      have hnx : (p - 1) &&& s < s := by have := pred_lt (s := s) hp; omega
      cases hb : p.testBit (g_lt s)
      · refine ⟨(e, nI ((p - 1) &&& s)), ?_, hnx, rfl, ?_⟩
        · show fX5_roots_S66 (nI r) a2 (nI s) σ e (nI p) = _
          unfold fX5_roots_S66 fX5_roots_J111
          simp only [ps_let]
          rw [if_neg (nI_nle hp (by omega)), if_pos (hlow.mpr hb), n1, pk_sub (by omega), fa_and]
        · show e.toInt = _
          rw [u_d_step _ hsub hp, q2]
          have : g p = 0 := if_neg (fun q => by rw [hb] at q; exact absurd q.1 (by decide))
          rw [this, Int.add_zero]
      · have s4 : ((Int32.toInt64 (nI (g_red (X p))) * Int32.toInt64 (nI (g_f a r (s ^^^ p)))) - (Int32.toInt64 (nI (g_red (X p))) * Int32.toInt64 (nI (g_f a r (s ^^^ p)))) / 1000003 * 1000003).toInt = g p := by
          have : g p = (g_red ((g_red (X p) : Int) * (g_f a r (s ^^^ p) : Int)) : Int) := if_pos ⟨hb, by omega⟩
          rw [this]
          exact m_term (g_red_lt _) (by have := hw.2.2.2.2.2.2.2.1 r (s ^^^ p); omega)
        refine ⟨(e - ((Int32.toInt64 (nI (g_red (X p))) * Int32.toInt64 (nI (g_f a r (s ^^^ p)))) - (Int32.toInt64 (nI (g_red (X p))) * Int32.toInt64 (nI (g_f a r (s ^^^ p)))) / 1000003 * 1000003), nI ((p - 1) &&& s)), ?_, hnx, rfl, ?_⟩
        · show fX5_roots_S66 (nI r) a2 (nI s) σ e (nI p) = _
          unfold fX5_roots_S66 fX5_roots_J111
          simp only [ps_let]
          rw [if_neg (nI_nle hp (by omega)), if_neg (fun q => by rw [hlow.mp q] at hb; exact absurd hb (by decide)), pk_ok (by omega) (by decide), df_int, df_xor hsub, m_numberOf h hr hlt, Option.bind_some, nI_clamp (by omega), hX p q0, n1, pk_sub (by omega), fa_and]
        · show (e - _).toInt = _
          rw [fb_subL (by rw [q2, s4]; omega) (by rw [q2, s4]; omega), q2, s4, u_d_step _ hsub hp]
          omega) (by
      rintro ⟨e, c⟩ ⟨q0, q1, q2⟩
      simp only at q1 q2
      subst q1
      refine ⟨e, ?_, q2⟩
      show fX5_roots_S66 (nI r) a2 (nI s) σ e (nI 0) = _
      unfold fX5_roots_S66
      rw [if_pos (by decide)]) (F := 100000) (st := (Int32.toInt64 (nI (g_f a r s)), nI ((s - 1) &&& s))) (sub_and _ _) ⟨pred_lt (by omega), rfl, by
        show (Int32.toInt64 (nI (g_f a r s))).toInt = _
        rw [wid (by omega), u_d_step _ (sub_refl s) (by omega), u_d_top]
        have : g s = 0 := if_neg (fun q => q.2 rfl)
        rw [this]; omega⟩ (by have := pred_lt (a := s) (s := s) (by omega); omega)
  refine ⟨e, e1, ?_⟩
  have hz : g 0 = 0 := if_neg (fun q => by rw [Nat.zero_testBit] at q; exact absurd q.1 (by decide))
  have : u_d s g 0 = u_s s g := by rw [u_d_0, hz, Int.add_zero]
  rw [e2, this]
  refine pe.rf.sub (pe_u (fun p hp hsub => ?_))
  show pe 1000003 (if p.testBit (g_lt s) = true ∧ p ≠ s then _ else _) (if p.testBit (g_lt s) = true ∧ p ≠ s then X p * (g_f a r (s ^^^ p) : Int) else 0)
  by_cases c : p.testBit (g_lt s) = true ∧ p ≠ s
  · rw [if_pos c, if_pos c]
    exact (pe_red.mpr (red_red _)).tr ((pe_red.mpr (red_red _)).mul pe.rf)
  · rw [if_neg c, if_neg c]; exact pe.rf
