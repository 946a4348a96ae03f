/-! times -/
def x_mk (how a b : Nat) : Option Nat := if how = 0 then (if a &&& b = 0 then some (a ||| b) else none) else if how = 1 then some (a ||| b) else if how = 2 then some (a &&& b) else if how = 3 then some (a ^^^ b) else if a = b then some a else none
def x_pr (how : Nat) (x y : Int) : Int := if how = 5 then x + y else if how = 6 then x - y else x * y
def x_T (how : Nat) (f g : Nat → Int) (s a b : Nat) : Int := if x_mk how a b = some s then x_pr how (f a) (g b) else 0
/-- what a set gets -/
def x_H (how N : Nat) (f g : Nat → Int) (s : Nat) : Int := fb_si (fun a => fb_si (fun b => x_T how f g s a b) N) N
theorem mk_lt {how a b n s : Nat} (ha : a < 2 ^ n) (hb : b < 2 ^ n) (h : x_mk how a b = some s) : s < 2 ^ n := by
  unfold x_mk at h
  split at h
  · split at h
    · rw [← Option.some.inj h]; exact Nat.or_lt_two_pow ha hb
    · exact absurd h (by simp)
  · split at h
    · rw [← Option.some.inj h]; exact Nat.or_lt_two_pow ha hb
    · split at h
      · rw [← Option.some.inj h]; exact Nat.lt_of_le_of_lt Nat.and_le_left ha
      · split at h
        · rw [← Option.some.inj h]; exact Nat.xor_lt_two_pow ha hb
        · split at h
          · rw [← Option.some.inj h]; exact ha
          · exact absurd h (by simp)
theorem m_makes {how a b n : Nat} (hh : how < 7) (hn : n ≤ 8) (ha : a < 2 ^ n) (hb : b < 2 ^ n) : fX5_makes (nI a) (nI b) (nI how) = some (match x_mk how a b with | some s => nI s | none => -1) := by
  have h2 := p2_le n hn
  have hab : a &&& b < 256 := Nat.lt_of_le_of_lt Nat.and_le_left (by omega)
  unfold fX5_makes x_mk
  rcases (show how = 0 ∨ how = 1 ∨ how = 2 ∨ how = 3 ∨ how = 4 ∨ how = 5 ∨ how = 6 by omega) with rfl | rfl | rfl | rfl | rfl | rfl | rfl
  · rw [if_pos (by decide), if_pos rfl, fa_and, fa_or]
    by_cases c : a &&& b = 0
    · rw [if_pos (by rw [c]; rfl), if_pos c]
    · rw [if_neg (by rw [nI0_iff (by omega)]; exact c), if_neg c]
  · rw [if_neg (by decide), if_pos (by decide), fa_or]; rfl
  · rw [if_neg (by decide), if_neg (by decide), if_pos (by decide), fa_and]; rfl
  · rw [if_neg (by decide), if_neg (by decide), if_neg (by decide), if_pos (by decide), fb_xorI]; rfl
  all_goals
    rw [if_neg (by decide), if_neg (by decide), if_neg (by decide), if_neg (by decide)]
    by_cases c : a = b
    · rw [if_pos (by rw [c])]; simp [c]
    · rw [if_neg (by rw [nI_eq (by omega) (by omega)]; exact c)]; simp [c]
theorem z_add (x : Int64) : (0 : Int64) + x = x := by
  apply Int64.toInt_inj.mp
  have := fb_rngL x
  rw [fb_addL] <;> simp <;> omega
theorem m_product {how : Nat} {x y : Nat} (hh : how < 7) (hx : x < 1000003) (hy : y < 1000003) : fX5_product (nI x) (nI y) (nI how) = some (nI (g_red (x_pr how (x : Int) (y : Int)))) := by
  have wx := wid (v := x) (by omega)
  have wy := wid (v := y) (by omega)
  unfold fX5_product x_pr
  rw [z_add]
  have hm : (x : Int) * (y : Int) ≤ 1000003 * 1000003 := Int.mul_le_mul (by omega) (by omega) (by omega) (by omega)
  have hm0 : 0 ≤ (x : Int) * (y : Int) := Int.mul_nonneg (by omega) (by omega)
  by_cases c5 : how = 5
  · subst c5
    rw [if_pos (by decide), p_rest, Option.bind_some, fb_addL (by omega) (by omega), wx, wy, if_pos rfl]
  · rw [nl_5, if_neg (by rw [nI_eq (by omega) (by decide)]; exact c5), if_neg c5]
    by_cases c6 : how = 6
    · subst c6
      rw [if_pos (by decide), p_rest, Option.bind_some, fb_subL (by omega) (by omega), wx, wy, if_pos rfl]
    · rw [nl_6, if_neg (by rw [nI_eq (by omega) (by decide)]; exact c6), if_neg c6, p_rest, Option.bind_some, fb_mulL (by rw [wx, wy]; omega) (by rw [wx, wy]; omega), wx, wy]
theorem m_times1 {σ : ps_S} {a : gG} {rf rg how i : Nat} {a4 : Int32} {X : Nat → Int} (h : m_G σ 47 0 a) (hw : g_wf a) (hf : rf < 4) (hg : rg < 4) (hh : how < 7) (hi : i < 2 ^ g_n a) (hX : ∀ s, s < 2 ^ g_n a → σ.1 52 s = nI (g_red (X s))) : ∃ τ, ps_lp (fun s => fX5_times_S83 (nI rf) (nI rg) (nI how) a4 (nI i) s.1 s.2) 100000 ((0 : Int32), σ) = some τ ∧ ps_fr (fun q => q = 52) σ τ ∧ ∀ s, s < 2 ^ g_n a → τ.1 52 s = nI (g_red (X s + fb_si (fun b => x_T how (fun p => (g_f a rf p : Int)) (fun p => (g_f a rg p : Int)) s i b) (2 ^ g_n a))) := by
  have h8 := hw.1
  have h2 := p2_le _ h8
  have h3 := p2_pos (g_n a)
  have hP : g_P = 1000003 := rfl
  obtain ⟨τ, t1, t2, t3⟩ := ps_for (step := fun s => fX5_times_S83 (nI rf) (nI rg) (nI how) a4 (nI i) s.1 s.2) (2 ^ g_n a)
    (fun j q => q.1 = nI j ∧ ps_fr (fun q => q = 52) σ q.2 ∧ ∀ s, s < 2 ^ g_n a → q.2.1 52 s = nI (g_red (X s + fb_si (fun b => x_T how (fun p => (g_f a rf p : Int)) (fun p => (g_f a rg p : Int)) s i b) j)))
    (fun τ => ps_fr (fun q => q = 52) σ τ ∧ ∀ s, s < 2 ^ g_n a → τ.1 52 s = nI (g_red (X s + fb_si (fun b => x_T how (fun p => (g_f a rf p : Int)) (fun p => (g_f a rg p : Int)) s i b) (2 ^ g_n a)))) (F := 100000) (s := ((0 : Int32), σ)) (by
      rintro j ⟨c, τ⟩ hj ⟨e, hfr, hv⟩
      simp only at e hfr hv
      subst e
      have hG := h.fr hfr (by decide)
      have hff := hw.2.2.2.2.2.2.2.1 rf i
      have hgg := hw.2.2.2.2.2.2.2.1 rg j
      unfold fX5_times_S83 fX5_times_J149
      simp only [ps_let]
      rw [m_all hG hw, Option.bind_some, if_neg (nI_nlt (by omega) (by omega)), m_makes hh h8 hi hj, Option.bind_some, nI_1]
      cases hk : x_mk how i j with
      | none =>
        refine ⟨_, by simp only []; rw [if_pos trivial], rfl, hfr, fun s hs => ?_⟩
        show τ.1 52 s = _
        rw [hv s hs, fb_si_succ]
        have : x_T how (fun p => (g_f a rf p : Int)) (fun p => (g_f a rg p : Int)) s i j = 0 := if_neg (by rw [hk]; simp)
        rw [this, Int.add_zero]
      | some t =>
        have ht := mk_lt hi hj hk
        have hnm : ¬ nI t = -1 := fun q => by
          have := nI_pos (n := t) (by omega)
          rw [q] at this
          exact this (by decide)
        simp only []
        rw [if_neg hnm, pk_ok (by omega) (by decide), m_numberOf hG hf (by omega), Option.bind_some, m_numberOf hG hg (by omega), Option.bind_some, m_product hh (by omega) (by omega), Option.bind_some, nI_clamp (by omega), hv t ht, z_add, p_rest, Option.bind_some, pk_ok (by omega) (by decide)]
        generalize hY : X t + fb_si (fun b => x_T how (fun p => (g_f a rf p : Int)) (fun p => (g_f a rg p : Int)) t i b) j = Y
        generalize hZ : x_pr how (g_f a rf i : Int) (g_f a rg j : Int) = Z
        have l1 := g_red_lt Y
        have l2 := g_red_lt Z
        have es : (Int32.toInt64 (nI (g_red Y)) + Int32.toInt64 (nI (g_red Z))).toInt = (g_red Y : Int) + (g_red Z : Int) := by
          have w1 := wid (v := g_red Y) (by omega)
          have w2 := wid (v := g_red Z) (by omega)
          rw [fb_addL (by omega) (by omega), w1, w2]
        rw [es, red_add]
        refine ⟨_, rfl, rfl, hfr.tr (ps_fr_ui rfl), fun s hs => ?_⟩
        show (ps_ui τ 52 t (nI (g_red (Y + Z)))).1 52 s = _
        rw [pu_i, fb_si_succ]
        by_cases c : s = t
        · rw [if_pos ⟨rfl, c⟩, c]
          have : x_T how (fun p => (g_f a rf p : Int)) (fun p => (g_f a rg p : Int)) t i j = Z := by rw [← hZ]; exact if_pos hk
          rw [this, ← hY, Int.add_assoc]
        · rw [if_neg (fun q => c q.2), hv s hs]
          have : x_T how (fun p => (g_f a rf p : Int)) (fun p => (g_f a rg p : Int)) s i j = 0 := if_neg (fun q => by rw [hk] at q; exact c (Option.some.inj q).symm)
          rw [this, Int.add_zero]) (by
      rintro ⟨c, τ⟩ ⟨e, hfr, hv⟩
      simp only at e hfr hv
      subst e
      have hG := h.fr hfr (by decide)
      exact ⟨τ, by unfold fX5_times_S83; rw [m_all hG hw, Option.bind_some, if_pos (nI_lt (by omega) (by omega))], hfr, hv⟩) ⟨rfl, ps_fr.rf, fun s hs => by
        show σ.1 52 s = nI (g_red (X s + 0))
        rw [Int.add_zero]; exact hX s hs⟩ (by omega)
  exact ⟨τ, t1, t2, t3⟩
theorem m_timesAll {σ : ps_S} {a : gG} {rf rg how : Nat} {a4 : Int32} (h : m_G σ 47 0 a) (hw : g_wf a) (hf : rf < 4) (hg : rg < 4) (hh : how < 7) (hX : ∀ s, s < 2 ^ g_n a → σ.1 52 s = nI 0) : ∃ τ, ps_lp (fun s => fX5_times_S71 (nI rf) (nI rg) (nI how) a4 s.1 s.2) 100000 ((0 : Int32), σ) = some τ ∧ ps_fr (fun q => q = 52) σ τ ∧ ∀ s, s < 2 ^ g_n a → τ.1 52 s = nI (g_red (x_H how (2 ^ g_n a) (fun p => (g_f a rf p : Int)) (fun p => (g_f a rg p : Int)) s)) := by
  have h8 := hw.1
  have h2 := p2_le _ h8
  have h3 := p2_pos (g_n a)
  obtain ⟨τ, t1, t2, t3⟩ := ps_for (step := fun s => fX5_times_S71 (nI rf) (nI rg) (nI how) a4 s.1 s.2) (2 ^ g_n a)
    (fun i q => q.1 = nI i ∧ ps_fr (fun q => q = 52) σ q.2 ∧ ∀ s, s < 2 ^ g_n a → q.2.1 52 s = nI (g_red (fb_si (fun a' => fb_si (fun b => x_T how (fun p => (g_f a rf p : Int)) (fun p => (g_f a rg p : Int)) s a' b) (2 ^ g_n a)) i)))
    (fun τ => ps_fr (fun q => q = 52) σ τ ∧ ∀ s, s < 2 ^ g_n a → τ.1 52 s = nI (g_red (x_H how (2 ^ g_n a) (fun p => (g_f a rf p : Int)) (fun p => (g_f a rg p : Int)) s))) (F := 100000) (s := ((0 : Int32), σ)) (by
      rintro i ⟨c, τ⟩ hi ⟨e, hfr, hv⟩
      simp only at e hfr hv
      subst e
      have hG := h.fr hfr (by decide)
      obtain ⟨υ, u1, u2, u3⟩ := m_times1 (a4 := a4) hG hw hf hg hh hi hv
      refine ⟨(nI (i + 1), υ), ?_, rfl, hfr.tr u2, u3⟩
      unfold fX5_times_S71
      simp only [ps_let]
      rw [m_all hG hw, Option.bind_some, if_neg (nI_nlt (by omega) (by omega)), u1, Option.bind_some, nI_1]) (by
      rintro ⟨c, τ⟩ ⟨e, hfr, hv⟩
      simp only at e hfr hv
      subst e
      have hG := h.fr hfr (by decide)
      exact ⟨τ, by unfold fX5_times_S71; rw [m_all hG hw, Option.bind_some, if_pos (nI_lt (by omega) (by omega))], hfr, hv⟩) ⟨rfl, ps_fr.rf, fun s hs => hX s hs⟩ (by omega)
  exact ⟨τ, t1, t2, t3⟩
/-- the class: apart -/
theorem or_apart {a b s : Nat} : (a &&& b = 0 ∧ a ||| b = s) ↔ (g_df a s = 0 ∧ b = s ^^^ a) := by
  constructor
  · rintro ⟨h1, h2⟩
    have hb : ∀ i, ¬ (a.testBit i = true ∧ b.testBit i = true) := fun i ⟨q1, q2⟩ => by
      have := congrArg (fun x => x.testBit i) h1
      simp only [Nat.testBit_and, q1, q2, Nat.zero_testBit] at this
      exact absurd this (by decide)
    refine ⟨df_sub.mpr (fun t ht => by rw [← h2, Nat.testBit_or, ht]; rfl), Nat.eq_of_testBit_eq (fun i => ?_)⟩
    rw [← h2, Nat.testBit_xor, Nat.testBit_or]
    have := hb i
    cases q1 : a.testBit i <;> cases q2 : b.testBit i <;> simp_all
  · rintro ⟨h1, h2⟩
    have h := df_sub.mp h1
    refine ⟨Nat.eq_of_testBit_eq (fun i => ?_), Nat.eq_of_testBit_eq (fun i => ?_)⟩
    · rw [h2, Nat.testBit_and, Nat.testBit_xor, Nat.zero_testBit]
      have := h i
      cases q1 : a.testBit i <;> cases q2 : s.testBit i <;> simp_all
    · rw [h2, Nat.testBit_or, Nat.testBit_xor]
      have := h i
      cases q1 : a.testBit i <;> cases q2 : s.testBit i <;> simp_all
theorem x_H0 {f g : Nat → Int} {n s : Nat} (hs : s < 2 ^ n) : x_H 0 (2 ^ n) f g s = u_s s (fun q => f q * g (s ^^^ q)) := by
  rw [u_s_N _ hs]
  refine fb_si_cong (fun a ha => ?_)
  by_cases e : g_df a s = 0
  · rw [if_pos e]
    have hx : s ^^^ a < 2 ^ n := xor_lt hs ha
    rw [← si_one (fun b => f a * g b) hx]
    refine fb_si_cong (fun b hb => ?_)
    show (if x_mk 0 a b = some s then x_pr 0 (f a) (g b) else 0) = _
    by_cases c : b = s ^^^ a
    · have := or_apart.mpr ⟨e, c⟩
      rw [if_pos c, if_pos]
      · rfl
      · show (if a &&& b = 0 then some (a ||| b) else none) = some s
        rw [if_pos this.1, this.2]
    · rw [if_neg c, if_neg]
      intro q
      have q : (if a &&& b = 0 then some (a ||| b) else none) = some s := q
      split at q
      · rename_i q1
        exact c (or_apart.mp ⟨q1, Option.some.inj q⟩).2
      · exact absurd q (by simp)
  · rw [if_neg e]
    refine si_none (fun b hb => if_neg ?_)
    intro q
    have q : (if a &&& b = 0 then some (a ||| b) else none) = some s := q
    split at q
    · rename_i q1
      exact e (or_apart.mp ⟨q1, Option.some.inj q⟩).1
    · exact absurd q (by simp)
theorem c_apart1 {σ : ps_S} {k1 k2 s : Nat} {f g : Nat → Nat} (hk1 : ps_ln k1 = 256) (hk2 : ps_ln k2 = 256) (hs : s < 256) (hf : ∀ p, p < 256 → σ.1 k1 p = nI (f p) ∧ f p < 1000003) (hg : ∀ p, p < 256 → σ.1 k2 p = nI (g p) ∧ g p < 1000003) : ∃ e, ps_lp (fun q => fX4_multiplyApart_S27 k1 k2 (nI s) σ q.1 q.2) 100000 ((Int32.toInt64 (σ.1 k1 0)) * (Int32.toInt64 (σ.1 k2 s)), nI s) = some e ∧ e.toInt = u_s s (fun q => (f q : Int) * (g (s ^^^ q) : Int)) := by
  have hb : ∀ q, q ≤ s → -(1000003 * 1000003 : Int) ≤ (f q : Int) * (g (s ^^^ q) : Int) ∧ (f q : Int) * (g (s ^^^ q) : Int) ≤ 1000003 * 1000003 := fun q hq => by
    have hx : s ^^^ q < 256 := xor_lt (n := 8) hs (show q < 256 by omega)
    have h1 := (hf q (by omega)).2
    have h2 := (hg _ hx).2
    have hm : (f q : Int) * (g (s ^^^ q) : Int) ≤ 1000003 * 1000003 := Int.mul_le_mul (by omega) (by omega) (by omega) (by omega)
    have hm0 : 0 ≤ (f q : Int) * (g (s ^^^ q) : Int) := Int.mul_nonneg (by omega) (by omega)
    omega
  have hmul : ∀ q, q ≤ s → ((Int32.toInt64 (σ.1 k1 q)) * (Int32.toInt64 (σ.1 k2 (s ^^^ q)))).toInt = (f q : Int) * (g (s ^^^ q) : Int) := fun q hq => by
    have hx : s ^^^ q < 256 := xor_lt (n := 8) hs (show q < 256 by omega)
    have b := hb q hq
    obtain ⟨h1, h1'⟩ := hf q (by omega)
    obtain ⟨h2, h2'⟩ := hg _ hx
    have w1 := wid (v := f q) (by omega)
    have w2 := wid (v := g (s ^^^ q)) (by omega)
    rw [h1, h2, fb_mulL (by rw [w1, w2]; omega) (by rw [w1, w2]; omega), w1, w2]
  have h0 := hmul 0 (by omega)
  rw [Nat.xor_zero] at h0
  obtain ⟨e, e1, e2⟩ := ps_subs (step := fun q => fX4_multiplyApart_S27 k1 k2 (nI s) σ q.1 q.2) s (fun p q => q.2 = nI p ∧ q.1.toInt = (f 0 : Int) * (g s : Int) + u_d s (fun q => (f q : Int) * (g (s ^^^ q) : Int)) p) (fun e => e.toInt = (f 0 : Int) * (g s : Int) + u_d s (fun q => (f q : Int) * (g (s ^^^ q) : Int)) 0) (by
      rintro p ⟨e, c⟩ hp hsub ⟨q1, q2⟩
      simp only at q1 q2
      subst q1
      have hps := sub_le hsub
      have hx : s ^^^ p < 256 := xor_lt (n := 8) hs (show p < 256 by omega)
      have b1 := u_d_bound (c := 1000003 * 1000003) (by decide) hb p
      have b2 := hb p hps
      have b3 := hb 0 (by omega)
      rw [Nat.xor_zero] at b3
      have hm := hmul p hps
      refine ⟨(e + (Int32.toInt64 (σ.1 k1 p)) * (Int32.toInt64 (σ.1 k2 (s ^^^ p))), nI ((p - 1) &&& s)), ?_, rfl, ?_⟩
      · unfold fX4_multiplyApart_S27
        simp only [ps_let]
        rw [if_neg (nI_nle hp (by omega)), hk1, hk2, pk_ok (by omega) (by decide), fb_xorI, pk_ok hx (by decide), nI_clamp (by omega), nI_clamp (by omega), n1, pk_sub (by omega), fa_and]
      · show (e + _).toInt = _
        have hs1 : (((s + 1 : Nat)) : Int) * (1000003 * 1000003) ≤ 256 * (1000003 * 1000003) := Int.mul_le_mul_of_nonneg_right (by omega) (by decide)
        rw [fb_addL (by rw [q2, hm]; omega) (by rw [q2, hm]; omega), q2, hm, u_d_step _ hsub hp, Int.add_assoc]) (by
      rintro ⟨e, c⟩ ⟨q1, q2⟩
      simp only at q1 q2
      subst q1
      exact ⟨e, by
        show fX4_multiplyApart_S27 k1 k2 (nI s) σ e (nI 0) = _
        unfold fX4_multiplyApart_S27; rw [if_pos (by decide)], q2⟩) (F := 100000) (st := ((Int32.toInt64 (σ.1 k1 0)) * (Int32.toInt64 (σ.1 k2 s)), nI s)) ⟨rfl, by
        show ((Int32.toInt64 (σ.1 k1 0)) * (Int32.toInt64 (σ.1 k2 s))).toInt = _
        rw [h0, u_d_top, Int.add_zero]⟩ (by omega)
  refine ⟨e, e1, ?_⟩
  rw [e2, u_d_0, Nat.xor_zero, Int.add_comm]
