/-! slopes of each kind; a row composed -/
theorem lN0 : (0 : Int64) = lN 0 := rfl
theorem lN1 : (1 : Int64) = lN 1 := rfl
theorem n8_lt {i : Nat} (h : i < 9) : ¬ (8 : Int32) < nI i := by
  rw [nl_8]; exact nI_nlt (by omega) (by decide)
theorem n8_gt : (8 : Int32) < nI 9 := by decide
theorem fr41 {σ : ps_S} {j : Nat} {v : Int64} : ps_fr (fun q => q = 41) σ (ps_ul σ 41 j v) := ps_fr_ul rfl
theorem c_choices {σ : ps_S} {k : Nat} (hk : k ≤ 99) : ∃ τ, fX3_slopesOfChoices (nI k) σ = some τ ∧ ps_fr (fun q => q = 41) σ τ ∧ τ.1 = σ.1 ∧ ∀ d, d < 9 → τ.2 41 d = Int64.ofInt (s_ff (k : Int) d) := by
  unfold fX3_slopesOfChoices
  simp only [ps_let]
  rw [n0, pk_ok (by decide) (by decide), nI_clamp (by decide), n1]
  obtain ⟨τ, t1, t2, t3, t4⟩ := fill_sl (step := fun s => fX3_slopesOfChoices_S9 (nI k) s.1 s.2) (σ := ps_ul σ 41 0 1) (N := 9) (d0 := 1) (v := fun d => Int64.ofInt (s_ff (k : Int) d)) (by decide) (by decide) (fun x hx => by
      have : x = 0 := by omega
      subst this
      rw [pu_l, if_pos ⟨rfl, rfl⟩]; rfl) (by
      intro i τ hi hi2 hf h5 hv ho
      show fX3_slopesOfChoices_S9 (nI k) (nI i) τ = _
      unfold fX3_slopesOfChoices_S9
      simp only [ps_let]
      obtain ⟨j, rfl⟩ : ∃ j, i = j + 1 := ⟨i - 1, by omega⟩
      rw [if_neg (n8_lt hi2), n1, pk_sub (by omega), show j + 1 - 1 = j by omega, pk_ok (by omega) (by decide), pk_ok hi2 (by decide), nI_clamp (by omega), nI_clamp (by omega), hv j (by omega), nI_add]
      have e1 : (nI k - nI (j + 1) + nI 1).toInt = (k : Int) - j := by
        have h1 := pk_sub_toInt (a := k) (b := j + 1) (by omega) (by omega)
        have h2 : (nI 1).toInt = 1 := by decide
        rw [fb_addI (by omega) (by omega), h1, h2]; omega
      rw [← oi_w, e1, ← oi_mul]; rfl) (by
      intro τ
      show fX3_slopesOfChoices_S9 (nI k) (nI 9) τ = _
      unfold fX3_slopesOfChoices_S9
      rw [if_pos n8_gt])
  exact ⟨τ, by rw [t1, Option.bind_some], fr41.tr t2, t3, t4⟩
theorem ff_bound {k : Nat} (hk : k ≤ 99) : ∀ d, d < 9 → -(99 : Int) ^ d ≤ s_ff (k : Int) d ∧ s_ff (k : Int) d ≤ 99 ^ d
  | 0, _ => by rw [s_ff, Int.pow_zero]; omega
  | d + 1, h => by
    obtain ⟨h1, h2⟩ := ff_bound hk d (by omega)
    rw [s_ff, Int.pow_succ]
    generalize s_ff (k : Int) d = X at h1 h2
    generalize (99 : Int) ^ d = Y at h1 h2
    have hc1 : -99 ≤ (k : Int) - d := by omega
    have hc2 : (k : Int) - d ≤ 99 := by omega
    generalize (k : Int) - d = c at hc1 hc2
    have hY : 0 ≤ Y := by omega
    rcases Int.le_total 0 c with h0 | h0
    · have a1 : X * c ≤ Y * c := Int.mul_le_mul_of_nonneg_right h2 h0
      have a2 : -Y * c ≤ X * c := Int.mul_le_mul_of_nonneg_right h1 h0
      have a3 : Y * c ≤ Y * 99 := Int.mul_le_mul_of_nonneg_left hc2 hY
      have a4 : -Y * c = -(Y * c) := Int.neg_mul _ _
      omega
    · have a1 : Y * c ≤ X * c := Int.mul_le_mul_of_nonpos_right h2 h0
      have a2 : X * c ≤ -Y * c := Int.mul_le_mul_of_nonpos_right h1 h0
      have a3 : Y * (-99) ≤ Y * c := Int.mul_le_mul_of_nonneg_left hc1 hY
      have a4 : -Y * c = -(Y * c) := Int.neg_mul _ _
      omega
theorem ff_small {k d : Nat} (hk : k ≤ 99) (hd : d < 9) : (Int64.ofInt (s_ff (k : Int) d)).toInt = s_ff (k : Int) d := by
  have h := ff_bound hk d hd
  have h2 : (99 : Int) ^ d ≤ 99 ^ 8 := by
    have : ∀ e, e < 9 → (99 : Int) ^ e ≤ 99 ^ 8 := by decide
    exact this d hd
  exact oi_sm (by omega) (by omega)
theorem mul_b {x y : Int64} (hx : -1000003 ≤ x.toInt ∧ x.toInt ≤ 1000003) (hy : -1000003 ≤ y.toInt ∧ y.toInt ≤ 1000003) : (x * y).toInt = x.toInt * y.toInt := by
  generalize ha : x.toInt = a at hx
  generalize hb : y.toInt = b at hy
  have h1 : -(1000003 * 1000003) ≤ a * b ∧ a * b ≤ 1000003 * 1000003 := by
    rcases Int.le_total 0 b with h0 | h0
    · have a1 : a * b ≤ 1000003 * b := Int.mul_le_mul_of_nonneg_right hx.2 h0
      have a2 : (-1000003) * b ≤ a * b := Int.mul_le_mul_of_nonneg_right hx.1 h0
      omega
    · have a1 : a * b ≤ (-1000003) * b := Int.mul_le_mul_of_nonpos_right hx.1 h0
      have a2 : 1000003 * b ≤ a * b := Int.mul_le_mul_of_nonpos_right hx.2 h0
      omega
  rw [fb_mulL (by rw [ha, hb]; omega) (by rw [ha, hb]; omega), ha, hb]
def v_pw (b k d : Nat) : Int64 := if k < d then 0 else ((Int64.ofInt (s_ff (k : Int) d) - Int64.ofInt (s_ff (k : Int) d) / 1000003 * 1000003) * Int32.toInt64 (nI (g_red ((b : Int) ^ (k - d))))) - ((Int64.ofInt (s_ff (k : Int) d) - Int64.ofInt (s_ff (k : Int) d) / 1000003 * 1000003) * Int32.toInt64 (nI (g_red ((b : Int) ^ (k - d))))) / 1000003 * 1000003
theorem v_pw_ok {b k d : Nat} (hk : k ≤ 99) (hd : d < 9) : rl_m (v_pw b k d) (s_ff (k : Int) d * (b : Int) ^ (k - d)) ∧ (d = 0 → v_pw b k d = lN (g_red (s_ff (k : Int) d * (b : Int) ^ (k - d)))) := by
  unfold v_pw
  by_cases c : k < d
  · rw [if_pos c, ff_zero c, Int.zero_mul]
    exact ⟨⟨by decide, by decide, pe.of rfl⟩, fun q => by omega⟩
  rw [if_neg c]
  have hs := ff_small hk hd
  obtain ⟨j1, j2, j3, j4⟩ := j_rem (Int64.ofInt (s_ff (k : Int) d))
  rw [hs] at j1 j4
  generalize Int64.ofInt (s_ff (k : Int) d) - Int64.ofInt (s_ff (k : Int) d) / 1000003 * 1000003 = x at j1 j2 j3 j4
  obtain ⟨w1, w2⟩ := wid_red ((b : Int) ^ (k - d))
  generalize hg : Int32.toInt64 (nI (g_red ((b : Int) ^ (k - d)))) = y at w1
  have hm := mul_b (x := x) (y := y) ⟨j2, j3⟩ ⟨by omega, by omega⟩
  obtain ⟨i1, i2, i3, i4⟩ := j_rem (x * y)
  rw [hm] at i1 i4
  have hp : pe 1000003 (x.toInt * y.toInt) (s_ff (k : Int) d * (b : Int) ^ (k - d)) := by
    rw [w1]
    exact j1.mul (pe_red.mpr (red_red _))
  refine ⟨⟨i2, i3, i1.tr hp⟩, fun q => ?_⟩
  subst q
  have h1 : x.toInt = (g_red (s_ff (k : Int) 0) : Int) := j4 (by rw [s_ff]; decide)
  have h3 : 0 ≤ x.toInt * y.toInt := Int.mul_nonneg (by omega) (by omega)
  exact i64_of_toInt (by rw [i4 h3, pe_red.mp hp]) (by have := g_red_lt (s_ff (k : Int) 0 * (b : Int) ^ (k - 0)); omega)
theorem c_slopesOfPower {σ : ps_S} {b k : Nat} (hb : b < 1000003) (hk : k ≤ 99) : ∃ τ, fX3_slopesOfPower (nI b) (nI k) σ = some τ ∧ ps_fr (fun q => q = 41) σ τ ∧ τ.1 = σ.1 ∧ ∀ d, d < 9 → τ.2 41 d = v_pw b k d := by
  obtain ⟨υ, u1, u2, u3, u4⟩ := c_choices (σ := σ) hk
  unfold fX3_slopesOfPower
  rw [u1, Option.bind_some, n0]
  obtain ⟨τ, t1, t2, t3, t4⟩ := fill_sl (step := fun s => fX3_slopesOfPower_S7 (nI b) (nI k) s.1 s.2) (σ := υ) (N := 9) (d0 := 0) (v := fun d => v_pw b k d) (by decide) (by decide) (fun x hx => absurd hx (Nat.not_lt_zero _)) (by
      intro i τ hi hi2 hf h5 hv ho
      show fX3_slopesOfPower_S7 (nI b) (nI k) (nI i) τ = _
      unfold fX3_slopesOfPower_S7 fX3_slopesOfPower_J50
      simp only [ps_let]
      rw [if_neg (n8_lt hi2), pk_ok hi2 (by decide), pk_ok hi2 (by decide), nI_clamp (by omega), nI_1, ho i (Nat.le_refl i), u4 i hi2]
      unfold v_pw
      by_cases c : k < i
      · rw [if_pos (nI_lt c (by omega)), if_pos c]
      · rw [if_neg (nI_nlt (by omega) (by omega)), if_neg c, pk_sub (by omega), c_raise hb (by omega), Option.bind_some, pk_ok hi2 (by decide)]) (by
      intro τ
      show fX3_slopesOfPower_S7 (nI b) (nI k) (nI 9) τ = _
      unfold fX3_slopesOfPower_S7
      rw [if_pos n8_gt])
  exact ⟨τ, by rw [t1, Option.bind_some], u2.tr t2, by rw [t3, u3], t4⟩
theorem neg_b {x : Int64} (h : -1000003 ≤ x.toInt ∧ x.toInt ≤ 1000003) : (-x).toInt = -x.toInt := by
  rw [Int64.toInt_neg]
  exact fb_bmodL (by omega) (by omega)
theorem iv_step {u j : Nat} (hu : u < 1000003) (hj : j < 9) : ∃ y, fX4_reduce ((-lN (g_red (s_iv (u : Int) j)) * Int32.toInt64 (nI (j + 1)) - -lN (g_red (s_iv (u : Int) j)) * Int32.toInt64 (nI (j + 1)) / 1000003 * 1000003) * lN u) = some (nI y) ∧ y = g_red (s_iv (u : Int) (j + 1)) := by
  have hg := g_red_lt (s_iv (u : Int) j)
  have h1 : pe 1000003 (g_red (s_iv (u : Int) j) : Int) (s_iv (u : Int) j) := pe_red.mpr (red_red _)
  generalize g_red (s_iv (u : Int) j) = g at hg h1
  have e1 : (lN g).toInt = (g : Int) := pk_lT (by omega)
  have e2 := neg_b (x := lN g) (by omega)
  have e3 : (Int32.toInt64 (nI (j + 1))).toInt = ((j + 1 : Nat) : Int) := wid (by omega)
  generalize Int32.toInt64 (nI (j + 1)) = w at e3
  have e4 := mul_b (x := -lN g) (y := w) (by omega) (by omega)
  generalize -lN g * w = v at e4
  obtain ⟨j1, j2, j3, -⟩ := j_rem v
  generalize v - v / 1000003 * 1000003 = x at j1 j2 j3
  have e5 : (lN u).toInt = (u : Int) := pk_lT (by omega)
  have e6 := mul_b (x := x) (y := lN u) ⟨j2, j3⟩ (by omega)
  refine ⟨g_red (x * lN u).toInt, p_reduce _, pe_red.mp ?_⟩
  rw [e6, e5]
  refine (j1.mul pe.rf).tr ?_
  rw [e4, e2, e1, e3, s_iv]
  have h2 := (h1.mul (pe.rf (x := -((j : Int) + 1)))).mul (pe.rf (x := (u : Int)))
  refine (pe.of ?_).tr h2
  rw [show ((j + 1 : Nat) : Int) = (j : Int) + 1 by omega]
  grind
theorem iv_S18 {τ : ps_S} {u j : Nat} (hu : u < 1000003) (hj : j + 1 < 9) (hv : τ.2 41 j = lN (g_red (s_iv (u : Int) j))) : fX3_slopesOfInverse_S18 (lN u) (nI (j + 1)) τ = some (.inl (nI (j + 1 + 1), ps_ul τ 41 (j + 1) (lN (g_red (s_iv (u : Int) (j + 1)))))) := by
  unfold fX3_slopesOfInverse_S18
  simp only [ps_let]
  obtain ⟨y, y1, y2⟩ := iv_step (j := j) hu (by omega)
  have hl : y < 2 ^ 31 := by rw [y2]; have := g_red_lt (s_iv (u : Int) (j + 1)); omega
  rw [if_neg (n8_lt hj), n1, pk_sub (by omega), show j + 1 - 1 = j by omega, pk_ok (by omega) (by decide), nI_clamp (by omega), hv, y1, Option.bind_some, pk_ok hj (by decide), nI_clamp (by omega), nI_add, nI_l hl, y2]
theorem iv_S18x (τ : ps_S) (u : Int64) : fX3_slopesOfInverse_S18 u (nI 9) τ = some (.inr τ) := by
  unfold fX3_slopesOfInverse_S18
  rw [if_pos n8_gt]
theorem iv_fill {σ : ps_S} {u : Nat} (hu : u < 1000003) : ∃ τ, ps_lp (fun s => fX3_slopesOfInverse_S18 (lN u) s.1 s.2) 100000 (nI 1, ps_ul σ 41 0 (lN u)) = some τ ∧ ps_fr (fun q => q = 41) σ τ ∧ τ.1 = σ.1 ∧ ∀ d, d < 9 → τ.2 41 d = lN (g_red (s_iv (u : Int) d)) := by
  obtain ⟨τ, t1, t2, t3, t4⟩ := fill_sl (step := fun s => fX3_slopesOfInverse_S18 (lN u) s.1 s.2) (σ := ps_ul σ 41 0 (lN u)) (N := 9) (d0 := 1) (v := fun d => lN (g_red (s_iv (u : Int) d))) (by decide) (by decide) (fun x hx => by
      have : x = 0 := by omega
      subst this
      rw [pu_l, if_pos ⟨rfl, rfl⟩, s_iv, red_small hu]) (by
      intro i τ hi hi2 hf h5 hv ho
      obtain ⟨j, rfl⟩ : ∃ j, i = j + 1 := ⟨i - 1, by omega⟩
      exact iv_S18 hu hi2 (hv j (by omega))) (fun τ => iv_S18x τ _)
  exact ⟨τ, t1, fr41.tr t2, t3, t4⟩
theorem inv_cont {σ τ : ps_S} {u : Nat} (hu : u < 1000003) (L : Int64 → Int32 × ps_S → Option ps_S) (t1 : L (lN u) (nI 1, ps_ul σ 41 0 (lN u)) = some τ) (x : Option Int32) (hx : x = some (nI u)) : (x.bind fun q1 => (ps_let (Int32.toInt64 q1) fun x2 => (ps_ck (0 : Int32) 9 ((ps_let (ps_ul σ 41 (Int32.toNatClampNeg (0 : Int32)) x2) fun σ4 => ((L x2 ((1 : Int32), σ4)).bind fun e10 => some e10)))))) = some τ := by
  subst hx
  rw [Option.bind_some]
  simp only [ps_let]
  rw [n0, pk_ok (by decide) (by decide), nI_clamp (by decide), n1, nI_l (by omega), t1, Option.bind_some]
theorem c_slopesOfInverse {σ : ps_S} {b u : Nat} (hu : u < 1000003) (hr : fX4_raise (nI b) 1000001 = some (nI u)) : ∃ τ, fX3_slopesOfInverse (nI b) σ = some τ ∧ ps_fr (fun q => q = 41) σ τ ∧ τ.1 = σ.1 ∧ ∀ d, d < 9 → τ.2 41 d = lN (g_red (s_iv (u : Int) d)) := by
  obtain ⟨τ, t1, t2, t3, t4⟩ := iv_fill (σ := σ) hu
  exact ⟨τ, inv_cont hu (fun x2 st => ps_lp (fun s => fX3_slopesOfInverse_S18 x2 s.1 s.2) 100000 st) t1 _ hr, t2, t3, t4⟩
theorem c_slopesOfAllWays (σ : ps_S) : ∃ τ, fX3_slopesOfAllWays σ = some τ ∧ ps_fr (fun q => q = 41) σ τ ∧ τ.1 = σ.1 ∧ ∀ d, d < 9 → τ.2 41 d = 1 := by
  unfold fX3_slopesOfAllWays
  rw [n0]
  obtain ⟨τ, t1, t2, t3, t4⟩ := fill_sl (step := fun s => fX3_slopesOfAllWays_S2 s.1 s.2) (σ := σ) (N := 9) (d0 := 0) (v := fun d => 1) (by decide) (by decide) (fun x hx => absurd hx (Nat.not_lt_zero _)) (by
      intro i τ hi hi2 hf h5 hv ho
      show fX3_slopesOfAllWays_S2 (nI i) τ = _
      unfold fX3_slopesOfAllWays_S2
      simp only [ps_let]
      rw [if_neg (n8_lt hi2), pk_ok hi2 (by decide), nI_clamp (by omega), nI_1]) (by
      intro τ
      show fX3_slopesOfAllWays_S2 (nI 9) τ = _
      unfold fX3_slopesOfAllWays_S2
      rw [if_pos n8_gt])
  exact ⟨τ, by rw [t1, Option.bind_some], t2, t3, t4⟩
theorem oi_neg (a : Int) : Int64.ofInt (-a) = -Int64.ofInt a := Int64.ofInt_neg a
theorem c_slopesOfRoots (σ : ps_S) : ∃ τ, fX3_slopesOfRoots σ = some τ ∧ ps_fr (fun q => q = 41) σ τ ∧ τ.1 = σ.1 ∧ ∀ d, d < 9 → τ.2 41 d = Int64.ofInt (s_rt d) := by
  unfold fX3_slopesOfRoots
  simp only [ps_let]
  rw [n0, n1, pk_ok (by decide) (by decide), pk_ok (by decide) (by decide), nI_clamp (by decide), nI_clamp (by decide), nl_2]
  obtain ⟨τ, t1, t2, t3, t4⟩ := fill_sl (step := fun s => fX3_slopesOfRoots_S16 s.1 s.2) (σ := ps_ul (ps_ul σ 41 0 0) 41 1 1) (N := 9) (d0 := 2) (v := fun d => Int64.ofInt (s_rt d)) (by decide) (by decide) (fun x hx => by
      rw [pu_l, pu_l]
      rcases (show x = 0 ∨ x = 1 by omega) with rfl | rfl
      · rw [if_neg (by decide), if_pos ⟨rfl, rfl⟩]; rfl
      · rw [if_pos ⟨rfl, rfl⟩]; rfl) (by
      intro i τ hi hi2 hf h5 hv ho
      show fX3_slopesOfRoots_S16 (nI i) τ = _
      unfold fX3_slopesOfRoots_S16
      simp only [ps_let]
      obtain ⟨j, rfl⟩ : ∃ j, i = j + 2 := ⟨i - 2, by omega⟩
      rw [if_neg (n8_lt hi2), n1, pk_sub (by omega), show j + 2 - 1 = j + 1 by omega, pk_ok (by omega) (by decide), pk_ok hi2 (by decide), nI_clamp (by omega), nI_clamp (by omega), hv (j + 1) (by omega), nI_add, ← oi_w, nI_toInt (by omega), ← oi_neg, ← oi_mul]
      have e : -s_rt (j + 1) * ((j + 1 : Nat) : Int) = s_rt (j + 2) := by
        show -s_iv 1 j * _ = s_iv 1 j * (-((j : Int) + 1)) * 1
        rw [show ((j + 1 : Nat) : Int) = (j : Int) + 1 by omega]
        grind
      rw [e]) (by
      intro τ
      show fX3_slopesOfRoots_S16 (nI 9) τ = _
      unfold fX3_slopesOfRoots_S16
      rw [if_pos n8_gt])
  exact ⟨τ, by rw [t1, Option.bind_some], (fr41.tr fr41).tr t2, t3, t4⟩
theorem c_slopesOfCount {σ : ps_S} {k : Nat} (hk : k < 9) : ∃ τ, fX3_slopesOfCount (nI k) σ = some τ ∧ ps_fr (fun q => q = 41) σ τ ∧ τ.1 = σ.1 ∧ ∀ d, d < 9 → τ.2 41 d = Int64.ofInt (if d = k then 1 else 0) := by
  unfold fX3_slopesOfCount
  rw [n0]
  obtain ⟨τ, t1, t2, t3, t4⟩ := fill_sl (step := fun s => fX3_slopesOfCount_S2 (nI k) s.1 s.2) (σ := σ) (N := 9) (d0 := 0) (v := fun d => Int64.ofInt (if d = k then 1 else 0)) (by decide) (by decide) (fun x hx => absurd hx (Nat.not_lt_zero _)) (by
      intro i τ hi hi2 hf h5 hv ho
      show fX3_slopesOfCount_S2 (nI k) (nI i) τ = _
      unfold fX3_slopesOfCount_S2 fX3_slopesOfCount_J23
      simp only [ps_let]
      rw [if_neg (n8_lt hi2), pk_ok hi2 (by decide), pk_ok hi2 (by decide), nI_clamp (by omega), nI_1]
      by_cases c : i = k
      · rw [if_pos (by rw [c]), if_pos c]; rfl
      · rw [if_neg (by rw [nI_eq (by omega) (by omega)]; exact c), if_neg c]; rfl) (by
      intro τ
      show fX3_slopesOfCount_S2 (nI k) (nI 9) τ = _
      unfold fX3_slopesOfCount_S2
      rw [if_pos n8_gt])
  exact ⟨τ, by rw [t1, Option.bind_some], t2, t3, t4⟩
theorem c_composeRow {σ : ps_S} {A : gA} {rf r : Nat} {sl : Nat → Int} (hw : a_wf A) (hc : c_R σ A) (hn : g_n (a_g A) ≠ 0) (hf : rf < 4) (hr : r < 4) (hsl : ∀ d, d < 9 → rl_m (σ.2 41 d) (sl d)) (hs0 : σ.2 41 0 = lN (g_red (sl 0))) : ∃ τ, fX4_composeRow (nI rf) (nI r) σ = some (nI (g_red (s_H (fun s => (g_f (a_g A) rf s : Int)) sl 0 (g_all (a_g A)))), τ) ∧ c_R τ (A_push A (g_row (a_g A) r (fun s => g_red (s_H (fun s => (g_f (a_g A) rf s : Int)) sl 0 s)))) ∧ ps_fr c_own σ τ := by
  have h8 := hw.1.1
  have h2 := p2_le _ h8
  have hN := g_N_pos hn
  have hP : g_P = 1000003 := rfl
  unfold fX4_composeRow
  obtain ⟨q2, c1, c2, c3, c4, c5⟩ := c_compose (σ := σ) (k := 2 + 1 + rf) (n := g_n (a_g A)) (z := 0) (Rl := rl_m) (Rc := rc_m) (sl := sl) (f := fun s => (g_f (a_g A) rf s : Int)) (ln_row hf) h8 rc_rl (fun s hs => by
      have := hw.1.2.2.2.2.2.2.2.1 rf s
      rw [c_row hc.1 hf (by omega), nI_toInt (by omega)]) (step_m h8 (fun s hs => by
      have := hw.1.2.2.2.2.2.2.2.1 rf s
      show 0 ≤ (g_f (a_g A) rf s : Int) ∧ (g_f (a_g A) rf s : Int) ≤ 1000003
      omega)) (fun d hd => hsl d (by omega))
  have f2 : ps_fr c_scr σ q2 := c2.wk (fun k q => by unfold c_scr; omega)
  have hc2 := c_R_scr hc f2
  obtain ⟨e8, e1, e2, e3, e4⟩ := fill_row (step := fun s => fX4_composeRow_S26 (nI r) s.1 s.2) (σ := q2) (N := 2 ^ g_n (a_g A)) (k := 42) (v := fun s => nI (g_red (s_H (fun s => (g_f (a_g A) rf s : Int)) sl 0 s))) (by omega) (by
      intro i τ hi hfr hv ho
      have hG := hc2.1.fr hfr (by omega)
      show fX4_composeRow_S26 (nI r) (nI i) τ = _
      unfold fX4_composeRow_S26
      simp only [ps_let]
      rw [c_countSets hG hw.1, Option.bind_some, if_neg (nI_ge (by omega) (by omega)), pk_ok (by omega) (by decide), pk_ok (by omega) (by decide), nI_clamp (by omega), nI_1, (hfr 40 (by decide)).2]
      by_cases c : i = 0
      · subst c
        rw [c4, hs0, lN_i, s_H0]
      · rw [c5 i hi c, lN_i]) (by
      intro τ hfr
      have hG := hc2.1.fr hfr (by omega)
      show fX4_composeRow_S26 (nI r) (nI (2 ^ g_n (a_g A))) τ = _
      unfold fX4_composeRow_S26
      rw [c_countSets hG hw.1, Option.bind_some, if_pos (nI_le (by omega) (by omega))])
  have f3 : ps_fr c_scr σ e8 := f2.tr (e2.wk (fun k q => by unfold c_scr; omega))
  obtain ⟨ω, w1, w2, w3⟩ := c_settle hw (c_R_scr hc f3) hr hn (F := fun s => g_red (s_H (fun s => (g_f (a_g A) rf s : Int)) sl 0 s)) (fun s hs => e3 s (by omega))
  refine ⟨ω, ?_, w2, (scr_c f3).tr w3⟩
  rw [pk_ok (by omega) (by decide), nI_clamp (by omega), hc.1.1, c1, Option.bind_some, e1, Option.bind_some, w1, Option.bind_some]
