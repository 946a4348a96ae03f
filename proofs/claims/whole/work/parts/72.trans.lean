/-! the class's transform of a row -/
theorem lo_bit : ∀ s, s < 256 → ∀ j, j < 8 → (s.testBit j = false → t_lo s j = s ∧ t_hi s j = s ||| 2 ^ j) ∧ (s.testBit j = true → t_hi s j = s) ∧ (s &&& 2 ^ j = 0 ↔ s.testBit j = false) ∧ (t_lo s j).testBit j = false ∧ (t_hi s j).testBit j = true := by decide +kernel
theorem lo_le (s j : Nat) : t_lo s j ≤ s := by
  unfold t_lo
  have h1 := Nat.div_add_mod s (2 ^ (j + 1))
  have h2 : s % 2 ^ j ≤ s % 2 ^ (j + 1) := by
    have : s % 2 ^ (j + 1) % 2 ^ j = s % 2 ^ j := Nat.mod_mod_of_dvd s ⟨2, by rw [Nat.pow_succ]⟩
    rw [← this]
    exact Nat.mod_le _ _
  have h3 := Nat.mul_comm (2 ^ (j + 1)) (s / 2 ^ (j + 1))
  omega
theorem lo_lo {s j : Nat} (hs : s < 256) (hj : j < 8) : t_lo (t_lo s j) j = t_lo s j := ((lo_bit (t_lo s j) (by have := lo_le s j; omega) j hj).1 (lo_bit s hs j hj).2.2.2.1).1
theorem hi_lt {s j n : Nat} (hj : j < n) (hn : n ≤ 8) (hs : s < 2 ^ n) (hb : s.testBit j = false) : s ||| 2 ^ j < 2 ^ n := Nat.or_lt_two_pow hs (Nat.pow_lt_pow_right (by decide) hj)
theorem lo_hi : ∀ s, s < 256 → ∀ j, j < 8 → s.testBit j = false → t_lo (s ||| 2 ^ j) j = s ∧ (s ||| 2 ^ j).testBit j = true ∧ s ||| 2 ^ j ≠ s := by decide +kernel
theorem hi_hi : ∀ s, s < 256 → ∀ j, j < 8 → s.testBit j = true → t_hi s j = s ∧ t_lo s j ||| 2 ^ j = s := by decide +kernel
theorem wid_red (X : Int) : (Int32.toInt64 (nI (g_red X))).toInt = (g_red X : Int) ∧ g_red X < 1000003 := by
  have := g_red_lt X
  exact ⟨by rw [nI_l (by omega), pk_lT (by omega)], this⟩
theorem bw_if {bw : Bool} {x : Int32} (hx : x = 0 ↔ bw = false) {α : Type} {p q : α} : (if x = 0 then p else q) = if bw then q else p := by
  cases bw
  · rw [if_pos (hx.mpr rfl)]; rfl
  · rw [if_neg (fun z => by have := hx.mp z; exact absurd this (by decide))]; rfl
theorem red_at {X Y : Int} {v : Int64} {a b : Int} (hv : v.toInt = a * (g_red X : Int) + b * (g_red Y : Int)) : fX4_reduce v = some (nI (g_red (a * X + b * Y))) := by rw [p_reduce, hv, red_lin]
theorem c_turn37 {σ : ps_S} {k c : Nat} {u : Int64} {r : Int32} (hk : ps_ln k = 256) (hc : c < 256) (hr : fX4_reduce u = some r) : fX4_turnTwo_J37 u (nI c) k σ = some (ps_ui σ k c r) := by
  unfold fX4_turnTwo_J37
  simp only [ps_let]
  rw [hr, Option.bind_some, hk, pk_ok hc (by decide), nI_clamp (by omega)]
theorem c_turn69 {σ : ps_S} {k c : Nat} {u : Int64} {r : Int32} (hk : ps_ln k = 256) (hc : c < 256) (hr : fX4_reduce u = some r) : fX4_turnTwo_J69 u (nI c) k σ = some (ps_ui σ k c r) := by
  unfold fX4_turnTwo_J69
  simp only [ps_let]
  rw [hr, Option.bind_some, hk, pk_ok hc (by decide), nI_clamp (by omega)]
theorem c_turn88 {σ : ps_S} {k lo hi : Nat} {x' y' c : Int64} {X Y C : Int} (hk : ps_ln k = 256) (hlo : lo < 256) (hhi : hi < 256) (wx : x'.toInt = (g_red X : Int)) (wy : y'.toInt = (g_red Y : Int)) (hC : c.toInt = C) (hC1 : 0 ≤ C) (hC2 : C ≤ 500002) : fX4_turnTwo_J88 k (nI lo) (nI hi) x' y' c σ = some (ps_ui (ps_ui σ k lo (nI (g_red (C * X + C * Y)))) k hi (nI (g_red (C * X + (-C) * Y)))) := by
  have lx := g_red_lt X
  have ly := g_red_lt Y
  have ea : (x' + y').toInt = (g_red X : Int) + (g_red Y : Int) := by rw [fb_addL (by omega) (by omega), wx, wy]
  have es : (x' - y').toInt = (g_red X : Int) - (g_red Y : Int) := by rw [fb_subL (by omega) (by omega), wx, wy]
  have b1 : ((g_red X : Int) + (g_red Y : Int)) * C ≤ 2000006 * 500002 := Int.mul_le_mul (by omega) hC2 hC1 (by omega)
  have b0 : 0 ≤ ((g_red X : Int) + (g_red Y : Int)) * C := Int.mul_nonneg (by omega) hC1
  have b2 : (g_red X : Int) * C ≤ 1000003 * 500002 := Int.mul_le_mul (by omega) hC2 hC1 (by omega)
  have b3 : (g_red Y : Int) * C ≤ 1000003 * 500002 := Int.mul_le_mul (by omega) hC2 hC1 (by omega)
  have b4 : 0 ≤ (g_red X : Int) * C := Int.mul_nonneg (by omega) hC1
  have b5 : 0 ≤ (g_red Y : Int) * C := Int.mul_nonneg (by omega) hC1
  have ed : ((g_red X : Int) - (g_red Y : Int)) * C = (g_red X : Int) * C - (g_red Y : Int) * C := Int.sub_mul _ _ _
  have e1 : ((x' + y') * c).toInt = C * (g_red X : Int) + C * (g_red Y : Int) := by
    rw [fb_mulL (by rw [ea, hC]; omega) (by rw [ea, hC]; omega), ea, hC]; grind
  have e2 : ((x' - y') * c).toInt = C * (g_red X : Int) + (-C) * (g_red Y : Int) := by
    rw [fb_mulL (by rw [es, hC]; omega) (by rw [es, hC]; omega), es, hC]; grind
  unfold fX4_turnTwo_J88
  simp only [ps_let]
  rw [red_at e1, Option.bind_some, hk, pk_ok hlo (by decide), red_at e2, Option.bind_some, pk_ok hhi (by decide), nI_clamp (by omega), nI_clamp (by omega)]
/-- two numbers turned -/
theorem c_turnTwo {σ : ps_S} {k how lo hi : Nat} {bw : Bool} {x : Int32} {X Y : Int} (hk : ps_ln k = 256) (hlo : lo < 256) (hhi : hi < 256) (hne : hi ≠ lo) (hh : how = 1 ∨ how = 2 ∨ how = 3) (hx : x = 0 ↔ bw = false) (h1 : σ.1 k lo = nI (g_red X)) (h2 : σ.1 k hi = nI (g_red Y)) : ∃ τ, fX4_turnTwo k (nI lo) (nI hi) (nI how) x σ = some τ ∧ ps_fr (fun q => q = k) σ τ ∧ τ.1 k lo = nI (g_red (k_t how bw false false * X + k_t how bw false true * Y)) ∧ τ.1 k hi = nI (g_red (k_t how bw true false * X + k_t how bw true true * Y)) ∧ ∀ j, j ≠ lo → j ≠ hi → τ.1 k j = σ.1 k j := by
  obtain ⟨wx, lx⟩ := wid_red X
  obtain ⟨wy, ly⟩ := wid_red Y
  have one : ∀ (c : Nat) (r : Int32), ps_fr (fun q => q = k) σ (ps_ui σ k c r) := fun c r => ps_fr_ui rfl
  have hcall : ∃ τ, fX4_turnTwo k (nI lo) (nI hi) (nI how) x σ = some τ ∧ τ = (if how = 1 then ps_ui σ k hi (nI (g_red (k_t how bw true false * X + k_t how bw true true * Y))) else if how = 2 then ps_ui σ k lo (nI (g_red (k_t how bw false false * X + k_t how bw false true * Y))) else ps_ui (ps_ui σ k lo (nI (g_red (k_t how bw false false * X + k_t how bw false true * Y)))) k hi (nI (g_red (k_t how bw true false * X + k_t how bw true true * Y)))) := by
    refine ⟨_, ?_, rfl⟩
    unfold fX4_turnTwo
    simp only [ps_let]
    rw [hk, pk_ok hlo (by decide), pk_ok hhi (by decide), nI_clamp (by omega), nI_clamp (by omega), h1, h2]
    generalize Int32.toInt64 (nI (g_red X)) = x' at wx
    generalize Int32.toInt64 (nI (g_red Y)) = y' at wy
    have hL5 := l5_half
    generalize (500002 : Int64) = c5 at hL5
    rcases hh with rfl | rfl | rfl
    · rw [if_pos (by decide), if_pos rfl]
      cases bw
      · rw [if_pos (hx.mpr rfl)]
        exact c_turn37 hk hhi (red_at (by rw [fb_addL (by omega) (by omega), wx, wy]; simp [k_t]; omega))
      · rw [if_neg (fun q => absurd (hx.mp q) (by decide))]
        exact c_turn37 hk hhi (red_at (by rw [fb_subL (by omega) (by omega), wx, wy]; simp [k_t]; omega))
    · rw [if_neg (show ¬ nI 2 = 1 by decide), if_pos (show nI 2 = 2 from rfl), if_neg (show ¬ (2 : Nat) = 1 by decide), if_pos rfl]
      cases bw
      · rw [if_pos (hx.mpr rfl)]
        exact c_turn69 hk hlo (red_at (by rw [fb_addL (by omega) (by omega), wx, wy]; simp [k_t]))
      · rw [if_neg (fun q => absurd (hx.mp q) (by decide))]
        exact c_turn69 hk hlo (red_at (by rw [fb_subL (by omega) (by omega), wx, wy]; simp [k_t]; omega))
    · rw [if_neg (show ¬ nI 3 = 1 by decide), if_neg (show ¬ nI 3 = 2 by decide), if_neg (show ¬ (3 : Nat) = 1 by decide), if_neg (show ¬ (3 : Nat) = 2 by decide)]
      cases bw
      · rw [if_pos (hx.mpr rfl), c_turn88 hk hlo hhi wx wy l5_one (by decide) (by decide)]
        simp [k_t]
      · rw [if_neg (fun q => absurd (hx.mp q) (by decide)), c_turn88 hk hlo hhi wx wy hL5 (by decide) (by decide)]
        simp [k_t]
  obtain ⟨τ, t1, t2⟩ := hcall
  refine ⟨τ, t1, ?_⟩
  rw [t2]
  rcases hh with rfl | rfl | rfl
  · rw [if_pos rfl]
    refine ⟨one _ _, ?_, ?_, fun j j1 j2 => ?_⟩
    · rw [pu_i, if_neg (by omega), h1]; simp [k_t]
    · rw [pu_i, if_pos ⟨rfl, rfl⟩]
    · rw [pu_i, if_neg (by omega)]
  · rw [if_neg (by decide), if_pos rfl]
    refine ⟨one _ _, ?_, ?_, fun j j1 j2 => ?_⟩
    · rw [pu_i, if_pos ⟨rfl, rfl⟩]
    · rw [pu_i, if_neg (by omega), h2]; simp [k_t]
    · rw [pu_i, if_neg (by omega)]
  · rw [if_neg (by decide), if_neg (by decide)]
    refine ⟨(one _ _).tr (ps_fr_ui rfl), ?_, ?_, fun j j1 j2 => ?_⟩
    · rw [pu_i, if_neg (by omega), pu_i, if_pos ⟨rfl, rfl⟩]
    · rw [pu_i, if_pos ⟨rfl, rfl⟩]
    · rw [pu_i, if_neg (by omega), pu_i, if_neg (by omega)]
/-- one thing -/
theorem c_trans1 {σ : ps_S} {k how n j : Nat} {bw : Bool} {x a1 a5 : Int32} {Y : Nat → Int} {Z : Nat → Int} (hk : ps_ln k = 256) (hn : n ≤ 8) (hj : j < n) (hh : how = 1 ∨ how = 2 ∨ how = 3) (hx : x = 0 ↔ bw = false) (hY : ∀ s, s < 2 ^ n → σ.1 k s = nI (g_red (Y s))) (hZ : ∀ s, s < 2 ^ n → Z s = k_t how bw (s.testBit j) false * Y (t_lo s j) + k_t how bw (s.testBit j) true * Y (t_hi s j)) : ∃ τ, ps_lp (fun q => fX4_transform_S34 k a1 (nI how) x (nI (2 ^ n)) a5 (nI (2 ^ j)) q.1 q.2) 100000 ((0 : Int32), σ) = some τ ∧ ps_fr (fun q => q = k) σ τ ∧ (∀ s, s < 2 ^ n → τ.1 k s = nI (g_red (Z s))) ∧ ∀ s, 2 ^ n ≤ s → τ.1 k s = σ.1 k s := by
  have h2 := p2_le n hn
  obtain ⟨τ, h1, h3, h4, h5⟩ := ps_for (step := fun q => fX4_transform_S34 k a1 (nI how) x (nI (2 ^ n)) a5 (nI (2 ^ j)) q.1 q.2) (2 ^ n)
    (fun i q => q.1 = nI i ∧ ps_fr (fun c => c = k) σ q.2 ∧ (∀ s, s < 2 ^ n → q.2.1 k s = nI (g_red (if t_lo s j < i then Z s else Y s))) ∧ ∀ s, 2 ^ n ≤ s → q.2.1 k s = σ.1 k s)
    (fun τ => ps_fr (fun c => c = k) σ τ ∧ (∀ s, s < 2 ^ n → τ.1 k s = nI (g_red (Z s))) ∧ ∀ s, 2 ^ n ≤ s → τ.1 k s = σ.1 k s) (F := 100000) (s := ((0 : Int32), σ)) (by
      rintro i ⟨c, τ⟩ hi ⟨e, hf, hv, ho⟩
      simp only at e hf hv ho
      subst e
      have hi2 : i < 256 := by omega
      obtain ⟨b1, b2, b3, b4, b5⟩ := lo_bit i hi2 j (by omega)
      unfold fX4_transform_S34 fX4_transform_J62
      simp only [ps_let]
      rw [if_neg (nI_ge hi (by omega)), fa_and, nI_1]
      cases hb : i.testBit j
      · obtain ⟨l1, l2⟩ := b1 hb
        obtain ⟨m1, m2, m3⟩ := lo_hi i hi2 j (by omega) hb
        have hlt := hi_lt hj hn hi hb
        have eY : (i ||| 2 ^ j) < 2 ^ n := hlt
        obtain ⟨υ, u1, u2, u3, u4, u5⟩ := c_turnTwo (σ := τ) (k := k) (how := how) (lo := i) (hi := i ||| 2 ^ j) (bw := bw) (x := x) (X := Y i) (Y := Y (i ||| 2 ^ j)) hk (by omega) (by omega) m3 hh hx (by rw [hv i hi, l1, if_neg (by omega)]) (by rw [hv _ hlt, m1, if_neg (by omega)])
        refine ⟨(nI (i + 1), υ), by rw [if_pos (by rw [b3.mpr hb]; rfl), fa_or, u1, Option.bind_some], rfl, hf.tr u2, fun s hs => ?_, fun s hs => ?_⟩
        · show υ.1 k s = _
          by_cases c1 : s = i
          · rw [c1, u3, l1, if_pos (by omega), hZ i hi, hb, l1, l2]
          · by_cases c2 : s = i ||| 2 ^ j
            · rw [c2, u4, m1, if_pos (by omega), hZ _ hlt, m2, m1, (hi_hi _ (by omega) j (by omega) m2).1]
            · rw [u5 s c1 c2, hv s hs]
              have hs2 : s < 256 := by omega
              have : t_lo s j ≠ i := fun q => by
                cases hsb : s.testBit j
                · exact c1 (by rw [← q]; exact (((lo_bit s hs2 j (by omega)).1 hsb).1).symm)
                · exact c2 (by rw [← q]; exact ((hi_hi s hs2 j (by omega) hsb).2).symm)
              by_cases c3 : t_lo s j < i
              · rw [if_pos c3, if_pos (by omega)]
              · rw [if_neg c3, if_neg (by omega)]
        · show υ.1 k s = _
          rw [u5 s (by omega) (by omega)]; exact ho s hs
      · refine ⟨(nI (i + 1), τ), by rw [if_neg (by rw [nI0_iff (Nat.lt_of_le_of_lt Nat.and_le_left (by omega)), b3, hb]; decide)], rfl, hf, fun s hs => ?_, ho⟩
        show τ.1 k s = _
        rw [hv s hs]
        have : t_lo s j ≠ i := fun q => by
          have := (lo_bit s (by omega) j (by omega)).2.2.2.1
          rw [q, hb] at this
          exact absurd this (by decide)
        by_cases c3 : t_lo s j < i
        · rw [if_pos c3, if_pos (by omega)]
        · rw [if_neg c3, if_neg (by omega)]) (by
      rintro ⟨c, τ⟩ ⟨e, hf, hv, ho⟩
      simp only at e hf hv ho
      subst e
      refine ⟨τ, by unfold fX4_transform_S34; rw [if_pos (nI_le (by omega) (by omega))], hf, fun s hs => ?_, ho⟩
      rw [hv s hs, if_pos (by have := lo_le s j; omega)]) ⟨rfl, ps_fr.rf, fun s hs => by rw [if_neg (by omega)]; exact hY s hs, fun _ _ => rfl⟩ (by omega)
  exact ⟨τ, h1, h3, h4, h5⟩
theorem c_transform {σ : ps_S} {k how n : Nat} {bw : Bool} {x : Int32} {f : Nat → Int} (hk : ps_ln k = 256) (hn : n ≤ 8) (hh : how = 1 ∨ how = 2 ∨ how = 3) (hx : x = 0 ↔ bw = false) (hf : ∀ s, s < 2 ^ n → σ.1 k s = nI (g_red (f s))) : ∃ τ, fX4_transform k (nI n) (nI how) x σ = some τ ∧ ps_fr (fun q => q = k) σ τ ∧ (∀ s, s < 2 ^ n → τ.1 k s = nI (g_red (t_y (k_t how bw) f n s))) ∧ ∀ s, 2 ^ n ≤ s → τ.1 k s = σ.1 k s := by
  have h2 := p2_le n hn
  unfold fX4_transform
  simp only [ps_let]
  rw [n1, nl_3, if_neg (nI_nlt (by omega) (by omega)), if_pos (nI_le (by omega) (by decide)), ← n1, sh1 n hn]
  obtain ⟨τ, h1, h3, h4, h5⟩ := ps_for (step := fun q => fX4_transform_S19 k (nI n) (nI how) x (nI (2 ^ n)) q.1 q.2) n
    (fun i q => q.1 = nI i ∧ ps_fr (fun c => c = k) σ q.2 ∧ (∀ s, s < 2 ^ n → q.2.1 k s = nI (g_red (t_y (k_t how bw) f i s))) ∧ ∀ s, 2 ^ n ≤ s → q.2.1 k s = σ.1 k s)
    (fun τ => ps_fr (fun c => c = k) σ τ ∧ (∀ s, s < 2 ^ n → τ.1 k s = nI (g_red (t_y (k_t how bw) f n s))) ∧ ∀ s, 2 ^ n ≤ s → τ.1 k s = σ.1 k s) (F := 100000) (s := ((0 : Int32), σ)) (by
      rintro i ⟨c, τ⟩ hi ⟨e, hf, hv, ho⟩
      simp only at e hf hv ho
      subst e
      obtain ⟨υ, u1, u2, u3, u4⟩ := c_trans1 (σ := τ) (k := k) (how := how) (n := n) (j := i) (bw := bw) (x := x) (a1 := nI n) (a5 := nI i) (Y := t_y (k_t how bw) f i) (Z := t_y (k_t how bw) f (i + 1)) hk hn hi hh hx hv (fun s _ => rfl)
      refine ⟨(nI (i + 1), υ), ?_, rfl, hf.tr u2, u3, fun s hs => by rw [show ((nI (i + 1), υ) : Int32 × ps_S).2 = υ from rfl, u4 s hs]; exact ho s hs⟩
      unfold fX4_transform_S19
      simp only [ps_let]
      rw [if_neg (nI_ge hi (by omega)), sh1' i (by omega), u1, Option.bind_some, nI_1]) (by
      rintro ⟨c, τ⟩ ⟨e, hf, hv, ho⟩
      simp only at e hf hv ho
      subst e
      exact ⟨τ, by unfold fX4_transform_S19; rw [if_pos (nI_le (by omega) (by omega))], hf, hv, ho⟩) ⟨rfl, ps_fr.rf, hf, fun _ _ => rfl⟩ (by omega)
  exact ⟨τ, by rw [h1, Option.bind_some], h3, h4, h5⟩
theorem c_transform_no {σ : ps_S} {k how : Nat} {n x : Int32} (hh : how = 0 ∨ 4 ≤ how ∧ how < 100) : fX4_transform k n (nI how) x σ = some σ := by
  unfold fX4_transform
  rw [n1, nl_3]
  rcases hh with rfl | ⟨h, h2⟩
  · rw [if_pos (by decide)]
  · rw [if_neg (nI_nlt (by omega) (by omega)), if_neg (nI_ge (by omega) (by omega))]
